section
-- the reference's going on within a sum
section
variable {h h0 h' : Hp} {B : Int → Int} {n a o o0 pu : Int} {c V W W0 : List Int} {K : Int → Hp → Prop} {R R' : PS} {s s' : MS} {k : Nat}
theorem dw_sp {p : Int → Bool} (hp : ∀ v, okv v → ¬ 60 ≤ v → p v = true → isOp v = true) : ∀ V : List Int, shp V → lo60 V → shp (V.dropWhile p) ∧ lo60 (V.dropWhile p) ∧ cn (V.dropWhile p) = cn V
  | [], _, _ => ⟨trivial, trivial, rfl⟩
  | v :: V, hs, hl => by
    by_cases q : p v = true
    · have io := hp v hs.1 hl q
      have ih := dw_sp hp V hs.2.2 (hs.2.1 io)
      simp only [List.dropWhile, q]
      refine ⟨ih.1, ih.2.1, ?_⟩
      rw [ih.2.2, cn_c, if_pos io]; omega
    · have q : p v = false := by simpa using q
      simp only [List.dropWhile, q]
      exact ⟨hs, hl, trivial⟩
theorem dw_mu : ∀ v, okv v → ¬ 60 ≤ v → isMu v = true → isOp v = true := by
  intro v h1 h2 h3
  unfold isMu at h3
  unfold isOp
  simp only [Bool.or_eq_true, Bool.and_eq_true, decide_eq_true_eq] at *
  omega
theorem dw_op : ∀ v, okv v → ¬ 60 ≤ v → isOp v = true → isOp v = true := fun _ _ _ h => h
theorem dw_nB : ∀ v, okv v → ¬ 60 ≤ v → nB v = true → isOp v = true := by
  intro v h1 h2 h3
  unfold nB isB at h3
  unfold isOp
  unfold okv at h1
  simp only [Bool.not_eq_true', Bool.and_eq_false_iff, Bool.and_eq_true, decide_eq_true_eq, decide_eq_false_iff_not] at *
  omega
theorem tw_len {p : Int → Bool} : ((V.takeWhile p).length : Int) + (V.dropWhile p).length = V.length := by
  obtain ⟨L, t1, t2, t3, -⟩ := tw_sp p V
  rw [t1, t2, List.length_take, List.length_drop]
  omega
theorem brk_c (hb : ¬ br V = -1) : V.dropWhile nB = br V :: (V.dropWhile nB).tail ∧ isB (br V) = true := by
  obtain ⟨L, t1, t2, t3, t4, t5⟩ := tw_sp nB V
  have eb := br_at t4 t3 t5
  have hL : L < V.length := by
    by_cases q : L < V.length
    · exact q
    · rw [if_neg q] at eb; exact absurd eb hb
  rw [if_pos hL] at eb
  have t6 := t5 hL
  unfold nB at t6
  rw [t2, eb, drop_c hL]
  exact ⟨rfl, by simpa using t6⟩
theorem hd0_dr {i : Nat} (hi : i < V.length) : hd0 (V.drop i ++ W0) = V.getD i 0 := by rw [drop_c hi]; rfl
theorem hd0_dr0 {i : Nat} (hi : V.length ≤ i) : hd0 (V.drop i ++ W0) = hd0 W0 := by rw [List.drop_eq_nil_of_le hi]; rfl
theorem r_brC3 {X Y : Hp → Prop} (hs : stM h (V ++ W0)) (hb : h 1000 95 = W0.length) (hl : (V.length : Int) + W0.length < 1700) (hX : (br V = 20 ∨ br V = 23 ∨ br V = 24) → X h) (hY : ¬ (br V = 20 ∨ br V = 23 ∨ br V = 24) → Y h) : m_Model_qBracket [1000] h (fun v h1 => (v = 20 → X h1) ∧ (¬ v = 20 → m_Model_qBracket [1000] h1 (fun v h2 => (v = 23 → X h2) ∧ (¬ v = 23 → m_Model_qBracket [1000] h2 (fun v h3 => (v = 24 → X h3) ∧ (¬ v = 24 → Y h3)))))) := by
  refine r_qBracket hs hb hl ⟨fun z => hX (Or.inl z), fun z => ?_⟩
  refine r_qBracket hs hb hl ⟨fun y => hX (Or.inr (Or.inl y)), fun y => ?_⟩
  refine r_qBracket hs hb hl ⟨fun x => hX (Or.inr (Or.inr x)), fun x => hY (by omega)⟩
theorem r_brC2 {X Y : Hp → Prop} (hs : stM h (V ++ W0)) (hb : h 1000 95 = W0.length) (hl : (V.length : Int) + W0.length < 1700) (hX : (br V = 21 ∨ br V = 22) → X h) (hY : ¬ (br V = 21 ∨ br V = 22) → Y h) : m_Model_qBracket [1000] h (fun v h1 => (v = 21 → X h1) ∧ (¬ v = 21 → m_Model_qBracket [1000] h1 (fun v h2 => (v = 22 → X h2) ∧ (¬ v = 22 → Y h2)))) := by
  refine r_qBracket hs hb hl ⟨fun z => hX (Or.inl z), fun z => ?_⟩
  refine r_qBracket hs hb hl ⟨fun y => hX (Or.inr y), fun y => hY (by omega)⟩
theorem r_onC2 {X Y : Hp → Prop} {v w : Int} (hv : ¬ v = 0 ∧ ¬ w = 0) (hs : stM h W) (hl : W.length < 1700) (hX : (hd0 W = v ∨ hd0 W = w) → X h) (hY : ¬ (hd0 W = v ∨ hd0 W = w) → Y h) : m_Model_qIsOn [1000, v] h (fun u h' => (¬ u = 0 → X h') ∧ (u = 0 → m_Model_qIsOn [1000, w] h' (fun u h' => (¬ u = 0 → X h') ∧ (u = 0 → Y h')))) := by
  refine r_qIsOnC hv.1 hs hl (fun z => hX (Or.inl z)) (fun z => ?_)
  exact r_qIsOnC hv.2 hs hl (fun y => hX (Or.inr y)) (fun y => hY (by omega))
theorem r_onC4 {X Y : Hp → Prop} (hs : stM h W) (hl : W.length < 1700) (hX : (hd0 W = 3 ∨ hd0 W = 4 ∨ hd0 W = 1 ∨ hd0 W = 2) → X h) (hY : ¬ (hd0 W = 3 ∨ hd0 W = 4 ∨ hd0 W = 1 ∨ hd0 W = 2) → Y h) : m_Model_qIsOn [1000, 3] h (fun u h' => (¬ u = 0 → X h') ∧ (u = 0 → m_Model_qIsOn [1000, 4] h' (fun u h' => (¬ u = 0 → X h') ∧ (u = 0 → m_Model_qIsOn [1000, 1] h' (fun u h' => (¬ u = 0 → X h') ∧ (u = 0 → m_Model_qIsOn [1000, 2] h' (fun u h' => (¬ u = 0 → X h') ∧ (u = 0 → Y h')))))))) := by
  refine r_qIsOnC (by decide) hs hl (fun z => hX (by omega)) (fun z => ?_)
  refine r_qIsOnC (by decide) hs hl (fun z => hX (by omega)) (fun z => ?_)
  refine r_qIsOnC (by decide) hs hl (fun z => hX (by omega)) (fun z => ?_)
  exact r_qIsOnC (by decide) hs hl (fun y => hX (by omega)) (fun y => hY (by omega))
theorem r_takesSign2 {x : Int} (hx : 0 ≤ x ∧ aln x = false) (ht : txM h B n) (hr : refS h B n a) (hT : sgn B n a = x → ∀ h', refS h' B n (tE B n a) → h' 1000 2 = tS B n a + 1 → frX h h' → K 1 h') (hF : ¬ sgn B n a = x → ∀ h', refS h' B n a → h' 1000 2 = tS B n a → frX h h' → K 0 h') : m_Model_takesSign [1000, x] h K := by
  have hn := ht.2.2.1
  have sp := tS_sp B n a
  have le : tS B n a ≤ n := rn_le hr.2.1.2
  have si := sgn_iff (B := B) (n := n) hr.2.1.1 hx
  have hr0 := hr.2.1
  unfold m_Model_takesSign
  simp -implicitDefEqProofs only [↓dn_den, ↓dn_loc, ↓dn_k, ↓dn_add, ↓dn_sub, ↓dn_mul, ↓dn_div, ↓dn_rem, ↓dn_bop, ↓dn_ladd, ↓dn_lsub, ↓dn_lmul, ↓dn_ldiv, ↓dn_lrem, ↓dn_land, ↓dn_l2i, ↓dn_neg, ↓dn_get, ↓dn_fix, ↓dn_ald, ↓dn_gld, ↓dn_yld, ↓dn_len, ↓dn_gln, ↓dn_cc, ↓dn_cb, ↓dn_and, ↓dn_or, ↓dn_not, ↓dn_cite, ↓dn_ec, ↓dn_ei, ↓dn_skip, ↓dn_seq, ↓dn_set, ↓dn_inc, ↓dn_putf, ↓dn_putz, ↓dn_ast, ↓dn_exp, ↓dn_if, ↓dn_ret, ↓dn_retz, ↓dn_retv, ↓dn_brk, ↓dn_cont, ↓dn_cs, ↓dn_sw, ↓dn_pop32, ↓dn_pop64, ↓dn_aop, ↓dn_call, ↓dn_max, ↓dn_min, ↓dn_acp, ↓dn_i2l, ↓dn_args0, ↓dn_args1, og_pad, og_ent, og_rlt, og_rle, og_rgt, og_rge, og_req, og_rne, og_padd, og_psub, og_pmul, List.getD_cons_zero, List.getD_cons_succ, List.set_cons_zero, List.set_cons_succ, List.length_cons, List.length_nil, List.cons_append, List.nil_append, List.replicate, List.append_nil, Nat.reduceAdd, Nat.reduceSub, Nat.reduceEqDiff, if_true, if_false, reduceIte, Int.reduceAdd, Int.reduceSub, Int.reduceMul, Int.reduceNeg, Int.reduceLT, Int.reduceLE, Int.cast_ofNat_Int, true_or, or_true, true_and, and_true, false_and, List.mem_cons, List.not_mem_nil, or_false, false_or, ne_eq, og_i32]
  rw [hr.1.1]
  refine ⟨fun z => absurd (by trivial) z, fun _ => ?_⟩
  refine r_look ht hr (fun h1 hr1 v1 f1 => ⟨fun z => ?_, fun z => ?_⟩)
  · have fin := hF (fun q => z (si.mp q)) h1 hr1 v1 (frX_2 f1)
    first | exact fin | exact ⟨by decide, fin⟩
  · have z : bt B n (tS B n a) = x := by simpa using z
    rw [v1]
    refine ⟨by omega, ?_⟩
    have fin := hT (si.mpr z) (og_up h1 1000 2 (tS B n a + 1)) (refS_sgn hx (si.mpr z) hr1 ⟨by rw [og_up_k (by decide)]; exact hr1.1.1, by rw [og_up_k (by decide)]; exact hr1.1.2⟩ og_up_eq (og_up_k (by decide))) og_up_eq (fun i k hp => by
      unfold og_up
      rw [if_neg (by omega)]
      exact f1 i k (by omega))
    first | exact fin | exact ⟨by decide, fin⟩
theorem r_sgC2 {X Y : Hp → Prop} {x y : Int} (hx : 0 ≤ x ∧ aln x = false) (hy : 0 ≤ y ∧ aln y = false) (ht : txM h B n) (hr : refS h B n a) (hX : (sgn B n a = x ∨ sgn B n a = y) → ∀ h', refS h' B n (tE B n a) → h' 1000 2 = tS B n a + 1 → frX h h' → X h') (hY : ¬ (sgn B n a = x ∨ sgn B n a = y) → ∀ h', refS h' B n a → h' 1000 2 = tS B n a → frX h h' → Y h') : m_Model_takesSign [1000, x] h (fun u h' => (¬ u = 0 → X h') ∧ (u = 0 → m_Model_takesSign [1000, y] h' (fun u h' => (¬ u = 0 → X h') ∧ (u = 0 → Y h')))) := by
  refine r_takesSign2 hx ht hr (fun z h1 r1 v1 f1 => ⟨fun _ => hX (Or.inl z) h1 r1 v1 f1, fun q => absurd q (by decide)⟩) (fun z h1 r1 v1 f1 => ⟨fun q => absurd rfl q, fun _ => ?_⟩)
  refine r_takesSign2 hy (txM_X ht f1) r1 (fun w h2 r2 v2 f2 => ⟨fun _ => hX (Or.inr w) h2 r2 v2 (frX_tr f1 f2), fun q => absurd q (by decide)⟩) (fun w h2 r2 v2 f2 => ⟨fun q => absurd rfl q, fun _ => hY (fun q => q.elim z w) h2 r2 v2 (frX_tr f1 f2)⟩)
theorem r_blk3 {v : Int} {N Bk C : List Int → Hp → Prop} (hW : ¬ (1 ≤ hd0 W0 ∧ hd0 W0 ≤ 4)) (hs : stM h (V ++ W0)) (hc : cdM h c) (hl : (c.length : Int) + V.length + W0.length < 1600) (hK : ∀ h', stM h' (v :: (V.dropWhile isMu ++ W0)) → cdM h' (c ++ dcl (V.takeWhile isMu)) → (∀ i k, i ≠ 1070 → i ≠ 1071 → ¬ (i = 1000 ∧ (k = 91 ∨ k = 93)) → h' i k = h i k) → K 1 h') : og_cut (og_while (og_or (og_cb (og_call m_Model_qIsOn [og_loc 0, og_k 3])) (og_cb (og_call m_Model_qIsOn [og_loc 0, og_k 4]))) (og_exp (og_call m_Model_qDrops [og_loc 0])) og_skip) (og_seq (og_ast 1700 (og_fix (fun _ => 1071) (og_loc 0)) (og_get 93 (og_loc 0)) (og_loc 1)) (og_seq (og_pop32 og_padd 93 (og_loc 0) (og_k 1)) (og_retz (og_k 1)))) [1000, v] h N K Bk C := by
  obtain ⟨L, t1, t2, t3, t4, t5⟩ := tw_sp isMu V
  rw [t1, t2] at hK
  refine ⟨fun e2 h2 => e2 = [1000, v] ∧ drI h V W0 c L h2, ?_, ?_⟩
  · refine og_loop L (fun i e2 h2 => e2 = [1000, v] ∧ drI h V W0 c i h2) ⟨rfl, drI_0 hs hc⟩ ?_
    rintro i e2 h2 hi ⟨rfl, hd⟩
    simp -implicitDefEqProofs only [↓dn_den, ↓dn_loc, ↓dn_k, ↓dn_add, ↓dn_sub, ↓dn_mul, ↓dn_div, ↓dn_rem, ↓dn_bop, ↓dn_ladd, ↓dn_lsub, ↓dn_lmul, ↓dn_ldiv, ↓dn_lrem, ↓dn_land, ↓dn_l2i, ↓dn_neg, ↓dn_get, ↓dn_fix, ↓dn_ald, ↓dn_gld, ↓dn_yld, ↓dn_len, ↓dn_gln, ↓dn_cc, ↓dn_cb, ↓dn_and, ↓dn_or, ↓dn_not, ↓dn_cite, ↓dn_ec, ↓dn_ei, ↓dn_skip, ↓dn_seq, ↓dn_set, ↓dn_inc, ↓dn_putf, ↓dn_putz, ↓dn_ast, ↓dn_exp, ↓dn_if, ↓dn_ret, ↓dn_retz, ↓dn_retv, ↓dn_brk, ↓dn_cont, ↓dn_cs, ↓dn_sw, ↓dn_pop32, ↓dn_pop64, ↓dn_aop, ↓dn_call, ↓dn_max, ↓dn_min, ↓dn_acp, ↓dn_i2l, ↓dn_args0, ↓dn_args1, og_pad, og_ent, og_rlt, og_rle, og_rgt, og_rge, og_req, og_rne, og_padd, og_psub, og_pmul, List.getD_cons_zero, List.getD_cons_succ, List.set_cons_zero, List.set_cons_succ, List.length_cons, List.length_nil, List.cons_append, List.nil_append, List.replicate, List.append_nil, Nat.reduceAdd, Nat.reduceSub, Nat.reduceEqDiff, if_true, if_false, reduceIte, Int.reduceAdd, Int.reduceSub, Int.reduceMul, Int.reduceNeg, Int.reduceLT, Int.reduceLE, Int.cast_ofNat_Int, true_or, or_true, true_and, and_true, false_and, List.mem_cons, List.not_mem_nil, or_false, false_or, ne_eq]
    refine r_onC2 (v := 3) (w := 4) (by decide) hd.1 (by rw [List.length_append, List.length_drop]; omega) (fun z => ?_) (fun z => ?_)
    · have hiV : i < V.length := by
        by_cases q : i < V.length
        · exact q
        · rw [hd0_dr0 (by omega)] at z; omega
      rw [hd0_dr hiV] at z
      have q : i < L := by
        by_cases q : i < L
        · exact q
        · have e : i = L := by omega
          subst e
          have := t5 hiV
          unfold isMu at this
          simp only [Bool.or_eq_false_iff, Bool.and_eq_false_iff, decide_eq_false_iff_not] at this
          omega
      exact drI_step hd hiV (by unfold okc; omega) (by omega) (fun h3 d3 => og_nx_mk q ⟨rfl, d3⟩)
    · have e : i = L := by
        by_cases q : i < L
        · have hiV : i < V.length := by omega
          rw [hd0_dr hiV] at z
          have := t4 i q
          unfold isMu at this
          simp only [Bool.or_eq_true, Bool.and_eq_true, decide_eq_true_eq] at this
          omega
        · omega
      subst e
      first | exact ⟨rfl, hd⟩ | exact hd
  · rintro e2 h2 ⟨rfl, hd⟩
    simp -implicitDefEqProofs only [↓dn_den, ↓dn_loc, ↓dn_k, ↓dn_add, ↓dn_sub, ↓dn_mul, ↓dn_div, ↓dn_rem, ↓dn_bop, ↓dn_ladd, ↓dn_lsub, ↓dn_lmul, ↓dn_ldiv, ↓dn_lrem, ↓dn_land, ↓dn_l2i, ↓dn_neg, ↓dn_get, ↓dn_fix, ↓dn_ald, ↓dn_gld, ↓dn_yld, ↓dn_len, ↓dn_gln, ↓dn_cc, ↓dn_cb, ↓dn_and, ↓dn_or, ↓dn_not, ↓dn_cite, ↓dn_ec, ↓dn_ei, ↓dn_skip, ↓dn_seq, ↓dn_set, ↓dn_inc, ↓dn_putf, ↓dn_putz, ↓dn_ast, ↓dn_exp, ↓dn_if, ↓dn_ret, ↓dn_retz, ↓dn_retv, ↓dn_brk, ↓dn_cont, ↓dn_cs, ↓dn_sw, ↓dn_pop32, ↓dn_pop64, ↓dn_aop, ↓dn_call, ↓dn_max, ↓dn_min, ↓dn_acp, ↓dn_i2l, ↓dn_args0, ↓dn_args1, og_pad, og_ent, og_rlt, og_rle, og_rgt, og_rge, og_req, og_rne, og_padd, og_psub, og_pmul, List.getD_cons_zero, List.getD_cons_succ, List.set_cons_zero, List.set_cons_succ, List.length_cons, List.length_nil, List.cons_append, List.nil_append, List.replicate, List.append_nil, Nat.reduceAdd, Nat.reduceSub, Nat.reduceEqDiff, if_true, if_false, reduceIte, Int.reduceAdd, Int.reduceSub, Int.reduceMul, Int.reduceNeg, Int.reduceLT, Int.reduceLE, Int.cast_ofNat_Int, true_or, or_true, true_and, and_true, false_and, List.mem_cons, List.not_mem_nil, or_false, false_or, ne_eq, og_i32]
    have h93 := hd.1.1
    have hlen : (V.drop L ++ W0).length ≤ V.length + W0.length := by rw [List.length_append, List.length_drop]; omega
    rw [h93, og_up_i (by decide), h93]
    have fin := hK _ (stM_push (v := v) hd.1) (cdM_fr hd.2.1 (fun i k hi => by unfold og_up; rw [if_neg (by omega), if_neg (by omega)])) (fun i k p q r => by
      unfold og_up
      rw [if_neg (by omega), if_neg (by omega)]
      exact hd.2.2 i k p (by omega))
    refine ⟨by omega, by omega, by omega, ?_⟩
    first | exact fin | exact ⟨by decide, fin⟩
theorem r_blk4 {v : Int} {N Bk C : List Int → Hp → Prop} (hW : ¬ (1 ≤ hd0 W0 ∧ hd0 W0 ≤ 4)) (hs : stM h (V ++ W0)) (hc : cdM h c) (hl : (c.length : Int) + V.length + W0.length < 1600) (hK : ∀ h', stM h' (v :: (V.dropWhile isOp ++ W0)) → cdM h' (c ++ dcl (V.takeWhile isOp)) → (∀ i k, i ≠ 1070 → i ≠ 1071 → ¬ (i = 1000 ∧ (k = 91 ∨ k = 93)) → h' i k = h i k) → K 1 h') : og_cut (og_while (og_or (og_or (og_or (og_cb (og_call m_Model_qIsOn [og_loc 0, og_k 3])) (og_cb (og_call m_Model_qIsOn [og_loc 0, og_k 4]))) (og_cb (og_call m_Model_qIsOn [og_loc 0, og_k 1]))) (og_cb (og_call m_Model_qIsOn [og_loc 0, og_k 2]))) (og_exp (og_call m_Model_qDrops [og_loc 0])) og_skip) (og_seq (og_ast 1700 (og_fix (fun _ => 1071) (og_loc 0)) (og_get 93 (og_loc 0)) (og_loc 1)) (og_seq (og_pop32 og_padd 93 (og_loc 0) (og_k 1)) (og_retz (og_k 1)))) [1000, v] h N K Bk C := by
  obtain ⟨L, t1, t2, t3, t4, t5⟩ := tw_sp isOp V
  rw [t1, t2] at hK
  refine ⟨fun e2 h2 => e2 = [1000, v] ∧ drI h V W0 c L h2, ?_, ?_⟩
  · refine og_loop L (fun i e2 h2 => e2 = [1000, v] ∧ drI h V W0 c i h2) ⟨rfl, drI_0 hs hc⟩ ?_
    rintro i e2 h2 hi ⟨rfl, hd⟩
    simp -implicitDefEqProofs only [↓dn_den, ↓dn_loc, ↓dn_k, ↓dn_add, ↓dn_sub, ↓dn_mul, ↓dn_div, ↓dn_rem, ↓dn_bop, ↓dn_ladd, ↓dn_lsub, ↓dn_lmul, ↓dn_ldiv, ↓dn_lrem, ↓dn_land, ↓dn_l2i, ↓dn_neg, ↓dn_get, ↓dn_fix, ↓dn_ald, ↓dn_gld, ↓dn_yld, ↓dn_len, ↓dn_gln, ↓dn_cc, ↓dn_cb, ↓dn_and, ↓dn_or, ↓dn_not, ↓dn_cite, ↓dn_ec, ↓dn_ei, ↓dn_skip, ↓dn_seq, ↓dn_set, ↓dn_inc, ↓dn_putf, ↓dn_putz, ↓dn_ast, ↓dn_exp, ↓dn_if, ↓dn_ret, ↓dn_retz, ↓dn_retv, ↓dn_brk, ↓dn_cont, ↓dn_cs, ↓dn_sw, ↓dn_pop32, ↓dn_pop64, ↓dn_aop, ↓dn_call, ↓dn_max, ↓dn_min, ↓dn_acp, ↓dn_i2l, ↓dn_args0, ↓dn_args1, og_pad, og_ent, og_rlt, og_rle, og_rgt, og_rge, og_req, og_rne, og_padd, og_psub, og_pmul, List.getD_cons_zero, List.getD_cons_succ, List.set_cons_zero, List.set_cons_succ, List.length_cons, List.length_nil, List.cons_append, List.nil_append, List.replicate, List.append_nil, Nat.reduceAdd, Nat.reduceSub, Nat.reduceEqDiff, if_true, if_false, reduceIte, Int.reduceAdd, Int.reduceSub, Int.reduceMul, Int.reduceNeg, Int.reduceLT, Int.reduceLE, Int.cast_ofNat_Int, true_or, or_true, true_and, and_true, false_and, List.mem_cons, List.not_mem_nil, or_false, false_or, ne_eq]
    refine r_onC4 hd.1 (by rw [List.length_append, List.length_drop]; omega) (fun z => ?_) (fun z => ?_)
    · have hiV : i < V.length := by
        by_cases q : i < V.length
        · exact q
        · rw [hd0_dr0 (by omega)] at z; omega
      rw [hd0_dr hiV] at z
      have q : i < L := by
        by_cases q : i < L
        · exact q
        · have e : i = L := by omega
          subst e
          have := t5 hiV
          unfold isOp at this
          simp only [Bool.or_eq_false_iff, Bool.and_eq_false_iff, decide_eq_false_iff_not] at this
          omega
      exact drI_step hd hiV (by unfold okc; omega) (by omega) (fun h3 d3 => og_nx_mk q ⟨rfl, d3⟩)
    · have e : i = L := by
        by_cases q : i < L
        · have hiV : i < V.length := by omega
          rw [hd0_dr hiV] at z
          have := t4 i q
          unfold isOp at this
          simp only [Bool.or_eq_true, Bool.and_eq_true, decide_eq_true_eq] at this
          omega
        · omega
      subst e
      first | exact ⟨rfl, hd⟩ | exact hd
  · rintro e2 h2 ⟨rfl, hd⟩
    simp -implicitDefEqProofs only [↓dn_den, ↓dn_loc, ↓dn_k, ↓dn_add, ↓dn_sub, ↓dn_mul, ↓dn_div, ↓dn_rem, ↓dn_bop, ↓dn_ladd, ↓dn_lsub, ↓dn_lmul, ↓dn_ldiv, ↓dn_lrem, ↓dn_land, ↓dn_l2i, ↓dn_neg, ↓dn_get, ↓dn_fix, ↓dn_ald, ↓dn_gld, ↓dn_yld, ↓dn_len, ↓dn_gln, ↓dn_cc, ↓dn_cb, ↓dn_and, ↓dn_or, ↓dn_not, ↓dn_cite, ↓dn_ec, ↓dn_ei, ↓dn_skip, ↓dn_seq, ↓dn_set, ↓dn_inc, ↓dn_putf, ↓dn_putz, ↓dn_ast, ↓dn_exp, ↓dn_if, ↓dn_ret, ↓dn_retz, ↓dn_retv, ↓dn_brk, ↓dn_cont, ↓dn_cs, ↓dn_sw, ↓dn_pop32, ↓dn_pop64, ↓dn_aop, ↓dn_call, ↓dn_max, ↓dn_min, ↓dn_acp, ↓dn_i2l, ↓dn_args0, ↓dn_args1, og_pad, og_ent, og_rlt, og_rle, og_rgt, og_rge, og_req, og_rne, og_padd, og_psub, og_pmul, List.getD_cons_zero, List.getD_cons_succ, List.set_cons_zero, List.set_cons_succ, List.length_cons, List.length_nil, List.cons_append, List.nil_append, List.replicate, List.append_nil, Nat.reduceAdd, Nat.reduceSub, Nat.reduceEqDiff, if_true, if_false, reduceIte, Int.reduceAdd, Int.reduceSub, Int.reduceMul, Int.reduceNeg, Int.reduceLT, Int.reduceLE, Int.cast_ofNat_Int, true_or, or_true, true_and, and_true, false_and, List.mem_cons, List.not_mem_nil, or_false, false_or, ne_eq, og_i32]
    have h93 := hd.1.1
    have hlen : (V.drop L ++ W0).length ≤ V.length + W0.length := by rw [List.length_append, List.length_drop]; omega
    rw [h93, og_up_i (by decide), h93]
    have fin := hK _ (stM_push (v := v) hd.1) (cdM_fr hd.2.1 (fun i k hi => by unfold og_up; rw [if_neg (by omega), if_neg (by omega)])) (fun i k p q r => by
      unfold og_up
      rw [if_neg (by omega), if_neg (by omega)]
      exact hd.2.2 i k p (by omega))
    refine ⟨by omega, by omega, by omega, ?_⟩
    first | exact fin | exact ⟨by decide, fin⟩
def gJ (h : Hp) (B : Int → Int) (n pu o0 : Int) (W0 : List Int) (R : PS) (m : Nat) (h2 : Hp) (a : Int) (c V : List Int) (o : Int) : Prop := frZ h h2 ∧ qI h2 B n o0 W0 a c V o ∧ lo60 V ∧ runs B n pu m (true, a, c, V, o) R
theorem r_qGoesOn (ht : txM h B n) (hW : ¬ (1 ≤ hd0 W0 ∧ hd0 W0 ≤ 4)) (hq : qI h B n o0 W0 a c V o) (hlo : lo60 V) (hr : runs B n pu k (true, a, c, V, o) R)
    (hT : ∀ h' a' c' V' o' k', k' < k → qI h' B n o0 W0 a' c' V' o' → runs B n pu k' (false, a', c', V', o') R → frZ h h' → K 1 h')
    (hF : ∀ h' z, R = .inr z → fltQ h' z → frZ h h' → K 0 h')
    (hE : ∀ h' a' c' V' o', qI h' B n o0 W0 a' c' V' o' → lo60 V' → br V' = -1 → R = .inl (a', c' ++ dcl V') → frZ h h' → K 0 h') : m_Model_qGoesOn [1000] h K := by
  have hn := ht.2.2.1
  unfold m_Model_qGoesOn
  simp -implicitDefEqProofs only [↓dn_den, ↓dn_loc, ↓dn_k, ↓dn_add, ↓dn_sub, ↓dn_mul, ↓dn_div, ↓dn_rem, ↓dn_bop, ↓dn_ladd, ↓dn_lsub, ↓dn_lmul, ↓dn_ldiv, ↓dn_lrem, ↓dn_land, ↓dn_l2i, ↓dn_neg, ↓dn_get, ↓dn_fix, ↓dn_ald, ↓dn_gld, ↓dn_yld, ↓dn_len, ↓dn_gln, ↓dn_cc, ↓dn_cb, ↓dn_and, ↓dn_or, ↓dn_not, ↓dn_cite, ↓dn_ec, ↓dn_ei, ↓dn_skip, ↓dn_seq, ↓dn_set, ↓dn_inc, ↓dn_putf, ↓dn_putz, ↓dn_ast, ↓dn_exp, ↓dn_if, ↓dn_ret, ↓dn_retz, ↓dn_retv, ↓dn_brk, ↓dn_cont, ↓dn_cs, ↓dn_sw, ↓dn_pop32, ↓dn_pop64, ↓dn_aop, ↓dn_call, ↓dn_max, ↓dn_min, ↓dn_acp, ↓dn_i2l, ↓dn_args0, ↓dn_args1, og_pad, og_ent, og_rlt, og_rle, og_rgt, og_rge, og_req, og_rne, og_padd, og_psub, og_pmul, List.getD_cons_zero, List.getD_cons_succ, List.set_cons_zero, List.set_cons_succ, List.length_cons, List.length_nil, List.cons_append, List.nil_append, List.replicate, List.append_nil, Nat.reduceAdd, Nat.reduceSub, Nat.reduceEqDiff, if_true, if_false, reduceIte, Int.reduceAdd, Int.reduceSub, Int.reduceMul, Int.reduceNeg, Int.reduceLT, Int.reduceLE, Int.cast_ofNat_Int, true_or, or_true, true_and, and_true, false_and, List.mem_cons, List.not_mem_nil, or_false, false_or, ne_eq]
  refine ⟨fun e2 h2 => (∃ x1, e2 = [1000, x1]) ∧ ∃ m a c V o, m ≤ k ∧ gJ h B n pu o0 W0 R m h2 a c V o ∧ ¬ (sgn B n a = 41 ∧ (br V = 20 ∨ br V = 23 ∨ br V = 24)), ?_, ?_⟩
  · refine og_loop k (fun i e2 h2 => (∃ x1, e2 = [1000, x1]) ∧ ∃ m a c V o, m + i = k ∧ gJ h B n pu o0 W0 R m h2 a c V o) ⟨⟨_, rfl⟩, k, a, c, V, o, by omega, frZ_rf, hq, hlo, hr⟩ ?_
    rintro i e2 h2 hi ⟨⟨x1, rfl⟩, m, a, c, V, o, hm, fz, hq, hlo, hr⟩
    simp -implicitDefEqProofs only [↓dn_den, ↓dn_loc, ↓dn_k, ↓dn_add, ↓dn_sub, ↓dn_mul, ↓dn_div, ↓dn_rem, ↓dn_bop, ↓dn_ladd, ↓dn_lsub, ↓dn_lmul, ↓dn_ldiv, ↓dn_lrem, ↓dn_land, ↓dn_l2i, ↓dn_neg, ↓dn_get, ↓dn_fix, ↓dn_ald, ↓dn_gld, ↓dn_yld, ↓dn_len, ↓dn_gln, ↓dn_cc, ↓dn_cb, ↓dn_and, ↓dn_or, ↓dn_not, ↓dn_cite, ↓dn_ec, ↓dn_ei, ↓dn_skip, ↓dn_seq, ↓dn_set, ↓dn_inc, ↓dn_putf, ↓dn_putz, ↓dn_ast, ↓dn_exp, ↓dn_if, ↓dn_ret, ↓dn_retz, ↓dn_retv, ↓dn_brk, ↓dn_cont, ↓dn_cs, ↓dn_sw, ↓dn_pop32, ↓dn_pop64, ↓dn_aop, ↓dn_call, ↓dn_max, ↓dn_min, ↓dn_acp, ↓dn_i2l, ↓dn_args0, ↓dn_args1, og_pad, og_ent, og_rlt, og_rle, og_rgt, og_rge, og_req, og_rne, og_padd, og_psub, og_pmul, List.getD_cons_zero, List.getD_cons_succ, List.set_cons_zero, List.set_cons_succ, List.length_cons, List.length_nil, List.cons_append, List.nil_append, List.replicate, List.append_nil, Nat.reduceAdd, Nat.reduceSub, Nat.reduceEqDiff, if_true, if_false, reduceIte, Int.reduceAdd, Int.reduceSub, Int.reduceMul, Int.reduceNeg, Int.reduceLT, Int.reduceLE, Int.cast_ofNat_Int, true_or, or_true, true_and, and_true, false_and, List.mem_cons, List.not_mem_nil, or_false, false_or, ne_eq, og_i32]
    refine ⟨fun _ => ?_, fun z => absurd hq.1.1.1 z⟩
    have ht2 := txM_Z ht fz
    have ha := hq.1.2.1
    have hlen := hq.2.2.2.2.2.1
    have hsh := hq.2.2.2.2.2.2.1
    have ho := hq.2.2.2.2.2.2.2.2.2
    have ho1 := hq.2.2.2.2.2.2.2.1
    have ho2 := hq.2.2.2.2.2.2.2.2.1
    have cg := cn_rg V
    have te := tE_le (B := B) ha.2
    have sp := tS_sp B n a
    have le : tS B n a ≤ n := rn_le ha.2
    have s41 := sgn_iff (B := B) (n := n) (a := a) (x := 41) ha.1 (by decide)
    refine r_look ht2 hq.1 (fun h3 hr3 v3 f3 => ?_)
    have hq3 := qI_2 hq hr3 f3
    have fz3 := frZ_tr fz (fr2_Z f3)
    have out : ¬ (sgn B n a = 41 ∧ (br V = 20 ∨ br V = 23 ∨ br V = 24)) → (∃ x1', [1000, x1] = [1000, x1']) ∧ ∃ m a c V o, m ≤ k ∧ gJ h B n pu o0 W0 R m h3 a c V o ∧ ¬ (sgn B n a = 41 ∧ (br V = 20 ∨ br V = 23 ∨ br V = 24)) := fun z => ⟨⟨_, rfl⟩, m, a, c, V, o, by omega, ⟨fz3, hq3, hlo, hr⟩, z⟩
    refine ⟨fun z => ?_, fun z => out (fun q => z (s41.mp q.1))⟩
    have e41 := s41.mpr z
    refine r_brC3 hq3.2.2.1 hq3.2.2.2.2.1 (by omega) (fun hb => ?_) (fun hb => out (fun q => hb q.2))
    clear out
    have bk := brk_c (V := V) (by omega)
    have dw := dw_sp dw_nB V hsh hlo
    have tl := tw_len (V := V) (p := nB)
    have sg := sgn_go (B := B) (n := n) (a := a) (by omega)
    generalize hV' : (V.dropWhile nB).tail = V' at bk
    rw [bk.1] at dw tl
    have nop : isOp (br V) = false := by
      have := bk.2
      unfold isB at this
      unfold isOp
      simp only [Bool.and_eq_true, decide_eq_true_eq] at this
      simp only [Bool.and_eq_false_iff, decide_eq_false_iff_not]
      omega
    have cn' : cn V = 1 + cn V' := by rw [← dw.2.2, cn_c, if_neg (by rw [nop]; decide)]
    simp only [List.length_cons] at tl
    rw [v3]
    refine ⟨by omega, ?_⟩
    refine r_qDropsToBracket (V := V) (W0 := W0) (c := c) (stM_fr hq3.2.2.1 (fun i k hi => by unfold og_up; exact if_neg (by omega))) (cdM_fr hq3.2.1 (fun i k hi => by unfold og_up; exact if_neg (by omega))) (by rw [og_up_k (by decide)]; exact hq3.2.2.2.2.1) (by omega) (fun v hv hb => okv_B (shp_mem hsh v hv) hb) (fun h4 s4 c4 f4 => ?_)
    rw [bk.1] at s4
    have s4 : stM h4 (br V :: (V' ++ W0)) := s4
    have t := st_top s4
    have lW : ((V' ++ W0).length : Int) = V'.length + W0.length := by rw [List.length_append]; omega
    have e94 : ∀ x, og_up h4 1000 93 x 1000 94 = o := fun x => by rw [og_up_k (by decide), f4 _ _ (by decide) (by decide), og_up_k (by decide)]; exact hq3.2.2.2.1
    rw [t.1, e94]
    have e1 : ((V' ++ W0).length : Int) + 1 - 1 = ((V' ++ W0).length : Int) := by omega
    rw [e1]
    refine ⟨by omega, by omega, ?_⟩
    generalize h5e : og_up (og_up h4 1000 93 ((V' ++ W0).length : Int)) 1000 94 (o - 1) = h5
    have e93 : h5 1000 93 = ((V' ++ W0).length : Int) := by rw [← h5e, og_up_k (by decide), og_up_eq]
    have e71 : h5 1071 ((V' ++ W0).length : Int) = br V := by rw [← h5e, og_up_i (by decide), og_up_i (by decide)]; exact stM_hd s4
    have f5 : ∀ i k, i ≠ 1070 → ¬ (i = 1000 ∧ (k = 2 ∨ k = 91 ∨ k = 93 ∨ k = 94)) → h5 i k = h3 i k := fun i k p q => by
      rw [← h5e]
      unfold og_up
      rw [if_neg (by omega), if_neg (by omega), f4 i k p (by omega)]
      unfold og_up
      exact if_neg (by omega)
    have v5 : h5 1000 2 = tS B n a + 1 := by rw [← h5e, og_up_k (by decide), og_up_k (by decide), f4 _ _ (by decide) (by decide), og_up_eq]
    have c5 : cdM h5 (c ++ dcl (V.takeWhile nB)) := cdM_fr c4 (fun i k hi => by rw [← h5e]; unfold og_up; rw [if_neg (by omega), if_neg (by omega)])
    have s5 : stM h5 (V' ++ W0) := stM_tl s4 e93 (fun k => by rw [← h5e, og_up_i (by decide), og_up_i (by decide)])
    have o5 : h5 1000 94 = o - 1 := by rw [← h5e, og_up_eq]
    have lc : ((c ++ dcl (V.takeWhile nB)).length : Int) = c.length + (V.takeWhile nB).length := by rw [List.length_append]; unfold dcl; rw [List.length_map]; omega
    refine ⟨fun e6 h6 => (∃ x1, e6 = [1000, x1]) ∧ cdM h6 (c ++ dcl (V.takeWhile nB) ++ (if br V = 20 then [] else [dc (br V - 18)])) ∧ (∀ i k, i ≠ 1070 → ¬ (i = 1000 ∧ k = 91) → h6 i k = h5 i k), ?_, ?_⟩
    · simp -implicitDefEqProofs only [↓dn_den, ↓dn_loc, ↓dn_k, ↓dn_add, ↓dn_sub, ↓dn_mul, ↓dn_div, ↓dn_rem, ↓dn_bop, ↓dn_ladd, ↓dn_lsub, ↓dn_lmul, ↓dn_ldiv, ↓dn_lrem, ↓dn_land, ↓dn_l2i, ↓dn_neg, ↓dn_get, ↓dn_fix, ↓dn_ald, ↓dn_gld, ↓dn_yld, ↓dn_len, ↓dn_gln, ↓dn_cc, ↓dn_cb, ↓dn_and, ↓dn_or, ↓dn_not, ↓dn_cite, ↓dn_ec, ↓dn_ei, ↓dn_skip, ↓dn_seq, ↓dn_set, ↓dn_inc, ↓dn_putf, ↓dn_putz, ↓dn_ast, ↓dn_exp, ↓dn_if, ↓dn_ret, ↓dn_retz, ↓dn_retv, ↓dn_brk, ↓dn_cont, ↓dn_cs, ↓dn_sw, ↓dn_pop32, ↓dn_pop64, ↓dn_aop, ↓dn_call, ↓dn_max, ↓dn_min, ↓dn_acp, ↓dn_i2l, ↓dn_args0, ↓dn_args1, og_pad, og_ent, og_rlt, og_rle, og_rgt, og_rge, og_req, og_rne, og_padd, og_psub, og_pmul, List.getD_cons_zero, List.getD_cons_succ, List.set_cons_zero, List.set_cons_succ, List.length_cons, List.length_nil, List.cons_append, List.nil_append, List.replicate, List.append_nil, Nat.reduceAdd, Nat.reduceSub, Nat.reduceEqDiff, if_true, if_false, reduceIte, Int.reduceAdd, Int.reduceSub, Int.reduceMul, Int.reduceNeg, Int.reduceLT, Int.reduceLE, Int.cast_ofNat_Int, true_or, or_true, true_and, and_true, false_and, List.mem_cons, List.not_mem_nil, or_false, false_or, ne_eq]
      rw [e93, e71]
      refine ⟨by omega, by omega, fun q => ?_, fun q => ?_⟩
      · rw [if_neg q]
        refine ⟨by omega, by omega, fun q2 => ?_, fun q2 => ?_⟩
        · rw [q2]
          exact r_qCode c5 (by omega) (by unfold okc; omega) (fun h6 c6 f6 => ⟨⟨_, rfl⟩, c6, f6⟩)
        · have q3 : br V = 24 := by omega
          rw [q3]
          exact r_qCode c5 (by omega) (by unfold okc; omega) (fun h6 c6 f6 => ⟨⟨_, rfl⟩, c6, f6⟩)
      · have q : br V = 20 := by simpa using q
        rw [if_pos q, List.append_nil]
        first | exact ⟨⟨_, rfl⟩, c5, fun _ _ _ _ => rfl⟩ | exact ⟨⟨_, rfl⟩, c5, fun _ _ _ _ => trivial⟩ | exact ⟨⟨_, rfl⟩, c5⟩
    · rintro e6 h6 ⟨⟨x1, rfl⟩, c6, f6⟩
      simp -implicitDefEqProofs only [↓dn_den, ↓dn_loc, ↓dn_k, ↓dn_add, ↓dn_sub, ↓dn_mul, ↓dn_div, ↓dn_rem, ↓dn_bop, ↓dn_ladd, ↓dn_lsub, ↓dn_lmul, ↓dn_ldiv, ↓dn_lrem, ↓dn_land, ↓dn_l2i, ↓dn_neg, ↓dn_get, ↓dn_fix, ↓dn_ald, ↓dn_gld, ↓dn_yld, ↓dn_len, ↓dn_gln, ↓dn_cc, ↓dn_cb, ↓dn_and, ↓dn_or, ↓dn_not, ↓dn_cite, ↓dn_ec, ↓dn_ei, ↓dn_skip, ↓dn_seq, ↓dn_set, ↓dn_inc, ↓dn_putf, ↓dn_putz, ↓dn_ast, ↓dn_exp, ↓dn_if, ↓dn_ret, ↓dn_retz, ↓dn_retv, ↓dn_brk, ↓dn_cont, ↓dn_cs, ↓dn_sw, ↓dn_pop32, ↓dn_pop64, ↓dn_aop, ↓dn_call, ↓dn_max, ↓dn_min, ↓dn_acp, ↓dn_i2l, ↓dn_args0, ↓dn_args1, og_pad, og_ent, og_rlt, og_rle, og_rgt, og_rge, og_req, og_rne, og_padd, og_psub, og_pmul, List.getD_cons_zero, List.getD_cons_succ, List.set_cons_zero, List.set_cons_succ, List.length_cons, List.length_nil, List.cons_append, List.nil_append, List.replicate, List.append_nil, Nat.reduceAdd, Nat.reduceSub, Nat.reduceEqDiff, if_true, if_false, reduceIte, Int.reduceAdd, Int.reduceSub, Int.reduceMul, Int.reduceNeg, Int.reduceLT, Int.reduceLE, Int.cast_ofNat_Int, true_or, or_true, true_and, and_true, false_and, List.mem_cons, List.not_mem_nil, or_false, false_or, ne_eq]
      have lc6 : ((c ++ dcl (V.takeWhile nB) ++ (if br V = 20 then [] else [dc (br V - 18)])).length : Int) ≤ c.length + (V.takeWhile nB).length + 1 := by
        have : (if br V = 20 then ([] : List Int) else [dc (br V - 18)]).length ≤ 1 := by split <;> simp
        rw [List.length_append]
        omega
      have em : mst B n pu (true, a, c, V, o) = .inl (gE (tE B n a) (eP V' (c ++ dcl (V.takeWhile nB) ++ (if br V = 20 then [] else [dc (br V - 18)])) (o - 1))) := by
        rw [mst_G]
        unfold mG
        rw [if_pos ⟨e41, hb⟩, hV']
      generalize c ++ dcl (V.takeWhile nB) ++ (if br V = 20 then [] else [dc (br V - 18)]) = cc at c6 lc6 em
      have cg' := cn_rg V'
      have f36 : ∀ i k, i ≠ 1070 → ¬ (i = 1000 ∧ (k = 2 ∨ k = 91 ∨ k = 93 ∨ k = 94)) → h6 i k = h3 i k := fun i k p q => by rw [f6 i k p (by omega)]; exact f5 i k p q
      refine r_qEndsPart (V := V') (W0 := W0) (o := o - 1) (stM_fr s5 (fun i k hi => f6 i k (by omega) (by omega))) c6 (by rw [f36 _ _ (by decide) (by decide)]; exact hq3.2.2.2.2.1) (by rw [f36 _ _ (by decide) (by decide)]; exact hr3.1.1) (by rw [f6 _ _ (by decide) (by decide)]; exact o5) (by omega) (by omega) (fun v hv h60 => okv_60 (shp_mem dw.1.2.2 v hv) h60) (fun h7 c7 V7 o7 e7 s7 d7 q7 f7 => ?_)
      have sp := eP_sp (V := V') (c := cc) (o := o - 1) dw.1.2.2
      have sl := eP_le (V := V') (c := cc) (o := o - 1)
      rw [e7] at sp sl em
      obtain ⟨k', ek, hr'⟩ := runs_go hr em
      have sp4 := sp.2.2.2
      have sp3 := sp.2.2.1
      simp only at sp4 sp3 sl
      refine og_nx_mk (by omega) ⟨⟨_, rfl⟩, k', tE B n a, c7, V7, o7, by omega, frZ_tr fz3 (fun i k p q r => ?_), ⟨refS_sgn (by decide) e41 hr3 ⟨?_, ?_⟩ ?_ ?_, d7, s7, q7, ?_, by omega, sp.1, by omega, ho2, by omega⟩, sp.2.1, hr'⟩
      · rw [f7 i k p (by omega)]; exact f36 i k p (by omega)
      · rw [f7 _ _ (by decide) (by decide), f36 _ _ (by decide) (by decide)]; exact hr3.1.1
      · rw [f7 _ _ (by decide) (by decide), f36 _ _ (by decide) (by decide)]; exact hr3.1.2
      · rw [f7 _ _ (by decide) (by decide), f6 _ _ (by decide) (by decide)]; exact v5
      · rw [f7 _ _ (by decide) (by decide), f36 _ _ (by decide) (by decide)]
      · rw [f7 _ _ (by decide) (by decide), f36 _ _ (by decide) (by decide)]; exact hq3.2.2.2.2.1
  · rintro e2 h2 ⟨⟨x1, rfl⟩, m, a, c, V, o, hm, ⟨fz, hq, hlo, hr⟩, hnb⟩
    simp -implicitDefEqProofs only [↓dn_den, ↓dn_loc, ↓dn_k, ↓dn_add, ↓dn_sub, ↓dn_mul, ↓dn_div, ↓dn_rem, ↓dn_bop, ↓dn_ladd, ↓dn_lsub, ↓dn_lmul, ↓dn_ldiv, ↓dn_lrem, ↓dn_land, ↓dn_l2i, ↓dn_neg, ↓dn_get, ↓dn_fix, ↓dn_ald, ↓dn_gld, ↓dn_yld, ↓dn_len, ↓dn_gln, ↓dn_cc, ↓dn_cb, ↓dn_and, ↓dn_or, ↓dn_not, ↓dn_cite, ↓dn_ec, ↓dn_ei, ↓dn_skip, ↓dn_seq, ↓dn_set, ↓dn_inc, ↓dn_putf, ↓dn_putz, ↓dn_ast, ↓dn_exp, ↓dn_if, ↓dn_ret, ↓dn_retz, ↓dn_retv, ↓dn_brk, ↓dn_cont, ↓dn_cs, ↓dn_sw, ↓dn_pop32, ↓dn_pop64, ↓dn_aop, ↓dn_call, ↓dn_max, ↓dn_min, ↓dn_acp, ↓dn_i2l, ↓dn_args0, ↓dn_args1, og_pad, og_ent, og_rlt, og_rle, og_rgt, og_rge, og_req, og_rne, og_padd, og_psub, og_pmul, List.getD_cons_zero, List.getD_cons_succ, List.set_cons_zero, List.set_cons_succ, List.length_cons, List.length_nil, List.cons_append, List.nil_append, List.replicate, List.append_nil, Nat.reduceAdd, Nat.reduceSub, Nat.reduceEqDiff, if_true, if_false, reduceIte, Int.reduceAdd, Int.reduceSub, Int.reduceMul, Int.reduceNeg, Int.reduceLT, Int.reduceLE, Int.cast_ofNat_Int, true_or, or_true, true_and, and_true, false_and, List.mem_cons, List.not_mem_nil, or_false, false_or, ne_eq, og_i32]
    have ht2 := txM_Z ht fz
    have ha := hq.1.2.1
    have hlen := hq.2.2.2.2.2.1
    have hsh := hq.2.2.2.2.2.2.1
    have ho := hq.2.2.2.2.2.2.2.2.2
    have ho1 := hq.2.2.2.2.2.2.2.1
    have ho2 := hq.2.2.2.2.2.2.2.2.1
    have cg := cn_rg V
    have te := tE_le (B := B) ha.2
    have sp := tS_sp B n a
    have le : tS B n a ≤ n := rn_le ha.2
    refine r_sgC2 (x := 42) (y := 47) (by decide) (by decide) ht2 hq.1 (fun hs h3 r3 v3 f3 => ?_) (fun hs h3 r3 v3 f3 => ?_)
    · have te1 : a < tE B n a := (sgn_go (B := B) (n := n) (a := a) (by omega)).1
      have sg := sgn_go (B := B) (n := n) (a := a) (by omega)
      have dw := dw_sp dw_mu V hsh hlo
      have tl := tw_len (V := V) (p := isMu)
      have e1 : h3 1000 2 - 1 = tS B n a := by omega
      have e2 : h3 1001 (tS B n a) = sgn B n a := by
        rw [(txM_X ht2 f3).2.1 _ (by omega) sg.2.1]
        unfold sgn
        rw [if_pos sg.2.2]
      rw [e1, e2]
      have fin : ∀ v h4, v = (if sgn B n a = 42 then 3 else 4) → stM h4 (v :: (V.dropWhile isMu ++ W0)) → cdM h4 (c ++ dcl (V.takeWhile isMu)) → (∀ i k, i ≠ 1070 → i ≠ 1071 → ¬ (i = 1000 ∧ (k = 91 ∨ k = 93)) → h4 i k = h3 i k) → K 1 h4 := by
        intro v h4 hv s4 c4 f4
        have em : mst B n pu (true, a, c, V, o) = .inl (false, tE B n a, c ++ dcl (V.takeWhile isMu), v :: V.dropWhile isMu, o) := by
          rw [mst_G]
          unfold mG
          rw [if_neg hnb, if_pos hs, hv]
        obtain ⟨k', ek, hr'⟩ := runs_go hr em
        have hv4 : v = 3 ∨ v = 4 := by rw [hv]; split <;> simp
        have io : isOp v = true := by rcases hv4 with e | e <;> rw [e] <;> rfl
        have lc : ((c ++ dcl (V.takeWhile isMu)).length : Int) = c.length + (V.takeWhile isMu).length := by rw [List.length_append]; unfold dcl; rw [List.length_map]; omega
        refine hT h4 (tE B n a) (c ++ dcl (V.takeWhile isMu)) (v :: V.dropWhile isMu) o k' (by omega) ⟨refS_fr r3 (fun k hk => f4 _ _ (by decide) (by decide) (by omega)), c4, s4, ?_, ?_, ?_, ⟨?_, fun _ => dw.2.1, dw.1⟩, ?_, ho2, ho⟩ hr' (frZ_tr fz (frZ_tr (frX_Z f3) (fun i k p q r => f4 i k p q (by omega))))
        · rw [f4 _ _ (by decide) (by decide) (by decide), f3 _ _ (by decide)]; exact hq.2.2.2.1
        · rw [f4 _ _ (by decide) (by decide) (by decide), f3 _ _ (by decide)]; exact hq.2.2.2.2.1
        · simp only [List.length_cons]; omega
        · unfold okv; omega
        · rw [cn_c, if_pos io, dw.2.2]; omega
      have s3 := stM_fr hq.2.2.1 (fun i k hi => f3 i k (by omega))
      have c3 := cdM_fr hq.2.1 (fun i k hi => f3 i k (by omega))
      refine ⟨by omega, by omega, by omega, fun q => ?_, fun q => ?_⟩
      · exact r_blk3 hW s3 c3 (by omega) (fun h4 s4 c4 f4 => fin _ h4 (by rw [if_pos q]) s4 c4 f4)
      · exact r_blk3 hW s3 c3 (by omega) (fun h4 s4 c4 f4 => fin _ h4 (by rw [if_neg q]) s4 c4 f4)
    have hs1 := hs
    clear hs
    have hq3 := qI_at hq r3 (fun i k hi => f3 i k (by omega))
    have fz3 := frZ_tr fz (frX_Z f3)
    have ht3 := txM_X ht2 f3
    replace hq := hq3
    replace fz := fz3
    replace ht2 := ht3
    clear v3
    refine r_sgC2 (x := 43) (y := 45) (by decide) (by decide) ht2 hq.1 (fun hs h3 r3 v3 f3 => ?_) (fun hs h3 r3 v3 f3 => ?_)
    · have te1 : a < tE B n a := (sgn_go (B := B) (n := n) (a := a) (by omega)).1
      have sg := sgn_go (B := B) (n := n) (a := a) (by omega)
      have dw := dw_sp dw_op V hsh hlo
      have tl := tw_len (V := V) (p := isOp)
      have e1 : h3 1000 2 - 1 = tS B n a := by omega
      have e2 : h3 1001 (tS B n a) = sgn B n a := by
        rw [(txM_X ht2 f3).2.1 _ (by omega) sg.2.1]
        unfold sgn
        rw [if_pos sg.2.2]
      rw [e1, e2]
      have fin : ∀ v h4, v = (if sgn B n a = 43 then 1 else 2) → stM h4 (v :: (V.dropWhile isOp ++ W0)) → cdM h4 (c ++ dcl (V.takeWhile isOp)) → (∀ i k, i ≠ 1070 → i ≠ 1071 → ¬ (i = 1000 ∧ (k = 91 ∨ k = 93)) → h4 i k = h3 i k) → K 1 h4 := by
        intro v h4 hv s4 c4 f4
        have em : mst B n pu (true, a, c, V, o) = .inl (false, tE B n a, c ++ dcl (V.takeWhile isOp), v :: V.dropWhile isOp, o) := by
          rw [mst_G]
          unfold mG
          rw [if_neg hnb, if_neg hs1, if_pos hs, hv]
        obtain ⟨k', ek, hr'⟩ := runs_go hr em
        have hv4 : v = 1 ∨ v = 2 := by rw [hv]; split <;> simp
        have io : isOp v = true := by rcases hv4 with e | e <;> rw [e] <;> rfl
        have lc : ((c ++ dcl (V.takeWhile isOp)).length : Int) = c.length + (V.takeWhile isOp).length := by rw [List.length_append]; unfold dcl; rw [List.length_map]; omega
        refine hT h4 (tE B n a) (c ++ dcl (V.takeWhile isOp)) (v :: V.dropWhile isOp) o k' (by omega) ⟨refS_fr r3 (fun k hk => f4 _ _ (by decide) (by decide) (by omega)), c4, s4, ?_, ?_, ?_, ⟨?_, fun _ => dw.2.1, dw.1⟩, ?_, ho2, ho⟩ hr' (frZ_tr fz (frZ_tr (frX_Z f3) (fun i k p q r => f4 i k p q (by omega))))
        · rw [f4 _ _ (by decide) (by decide) (by decide), f3 _ _ (by decide)]; exact hq.2.2.2.1
        · rw [f4 _ _ (by decide) (by decide) (by decide), f3 _ _ (by decide)]; exact hq.2.2.2.2.1
        · simp only [List.length_cons]; omega
        · unfold okv; omega
        · rw [cn_c, if_pos io, dw.2.2]; omega
      have s3 := stM_fr hq.2.2.1 (fun i k hi => f3 i k (by omega))
      have c3 := cdM_fr hq.2.1 (fun i k hi => f3 i k (by omega))
      refine ⟨by omega, by omega, by omega, fun q => ?_, fun q => ?_⟩
      · exact r_blk4 hW s3 c3 (by omega) (fun h4 s4 c4 f4 => fin _ h4 (by rw [if_pos q]) s4 c4 f4)
      · exact r_blk4 hW s3 c3 (by omega) (fun h4 s4 c4 f4 => fin _ h4 (by rw [if_neg q]) s4 c4 f4)
    have hq4 := qI_at hq r3 (fun i k hi => f3 i k (by omega))
    have fz4 := frZ_tr fz (frX_Z f3)
    have ht4 := txM_X ht2 f3
    refine r_brC2 hq4.2.2.1 hq4.2.2.2.2.1 (by omega) (fun hb => ?_) (fun hb => ?_)
    · refine r_asksSign (by decide) ht4 r3 (fun s44 h5 r5 f5 => ?_) (fun s44 h5 l5 f5 => ?_)
      · refine ⟨fun z => absurd r5.1.1 z, fun _ => ?_⟩
        have sg := sgn_go (B := B) (n := n) (a := a) (by omega)
        have bk := brk_c (V := V) (by omega)
        have dw := dw_sp dw_nB V hsh hlo
        have tl := tw_len (V := V) (p := nB)
        have em : mst B n pu (true, a, c, V, o) = .inl (false, tE B n a, c ++ dcl (V.takeWhile nB), (br V + 2) :: (V.dropWhile nB).tail, o) := by
          rw [mst_G]
          unfold mG
          rw [if_neg hnb, if_neg hs1, if_neg hs, if_pos hb, if_pos s44]
        generalize (V.dropWhile nB).tail = V' at bk em
        rw [bk.1] at dw tl
        simp only [List.length_cons] at tl
        have nop : isOp (br V) = false := by rcases hb with e | e <;> rw [e] <;> rfl
        have nop2 : isOp (br V + 2) = false := by rcases hb with e | e <;> rw [e] <;> rfl
        obtain ⟨k', ek, hr'⟩ := runs_go hr em
        refine r_qDropsToBracket (V := V) (W0 := W0) (c := c) (stM_fr hq4.2.2.1 (fun i k hi => f5 i k (by omega))) (cdM_fr hq4.2.1 (fun i k hi => f5 i k (by omega))) (by rw [f5 _ _ (by decide)]; exact hq4.2.2.2.2.1) (by omega) (fun v hv hb => okv_B (shp_mem hsh v hv) hb) (fun h6 s6 c6 f6 => ?_)
        rw [bk.1] at s6
        have s6 : stM h6 (br V :: (V' ++ W0)) := s6
        have t := st_top s6
        have lW : ((V' ++ W0).length : Int) = V'.length + W0.length := by rw [List.length_append]; omega
        have e1 : ((V' ++ W0).length : Int) + 1 - 1 = ((V' ++ W0).length : Int) := by omega
        rw [t.1, t.2, e1]
        have lc : ((c ++ dcl (V.takeWhile nB)).length : Int) = c.length + (V.takeWhile nB).length := by rw [List.length_append]; unfold dcl; rw [List.length_map]; omega
        have f7 : ∀ i k, i ≠ 1070 → i ≠ 1071 → ¬ (i = 1000 ∧ (k = 91 ∨ k = 93)) → og_up h6 1071 ((V' ++ W0).length : Int) (br V + 2) i k = h5 i k := fun i k p q r => by
          rw [og_up_i q]; exact f6 i k p r
        have fin := hT (og_up h6 1071 ((V' ++ W0).length : Int) (br V + 2)) (tE B n a) (c ++ dcl (V.takeWhile nB)) ((br V + 2) :: V') o k' (by omega) ⟨refS_fr r5 (fun k hk => f7 _ _ (by decide) (by decide) (by omega)), cdM_fr c6 (fun i k hi => og_up_i (by omega)), stM_top s6, by rw [f7 _ _ (by decide) (by decide) (by decide), f5 _ _ (by decide)]; exact hq4.2.2.2.1, by rw [f7 _ _ (by decide) (by decide) (by decide), f5 _ _ (by decide)]; exact hq4.2.2.2.2.1, by simp only [List.length_cons]; omega, ⟨by unfold okv; omega, (fun z => by rw [nop2] at z; cases z), dw.1.2.2⟩, by
          have := dw.2.2
          rw [cn_c, if_neg (by rw [nop]; decide)] at this
          rw [cn_c, if_neg (by rw [nop2]; decide)]
          omega, ho2, ho⟩ hr' (frZ_tr fz4 (frZ_tr (frX_Z f5) (fun i k p q r => f7 i k p q (by omega))))
        refine ⟨by omega, by omega, by omega, by omega, ?_⟩
        first | exact fin | exact ⟨by decide, fin⟩
      · have fin := hF h5 (1, tS B n a) (runs_end hr (by rw [mst_G]; unfold mG; rw [if_neg hnb, if_neg hs1, if_neg hs, if_pos hb, if_neg s44])).1 (qI_flt hq4 ha.2 hn.2.1 l5 (f5 _ _ (by decide))) (frZ_tr fz4 (frX_Z f5))
        refine ⟨fun _ => ?_, fun z => absurd (by rw [l5.1]; decide) z⟩
        first | exact fin | exact ⟨by decide, fin⟩
    · refine ⟨fun e5 h5 => (br V = -1 ∧ h5 = h3) ∨ (¬ br V = -1 ∧ fltM h5 1 (tS B n a) ∧ (∀ i j, ¬ (i = 1000 ∧ (j = 5 ∨ j = 6)) → h5 i j = h3 i j)), ?_, ?_⟩
      · simp -implicitDefEqProofs only [↓dn_den, ↓dn_loc, ↓dn_k, ↓dn_add, ↓dn_sub, ↓dn_mul, ↓dn_div, ↓dn_rem, ↓dn_bop, ↓dn_ladd, ↓dn_lsub, ↓dn_lmul, ↓dn_ldiv, ↓dn_lrem, ↓dn_land, ↓dn_l2i, ↓dn_neg, ↓dn_get, ↓dn_fix, ↓dn_ald, ↓dn_gld, ↓dn_yld, ↓dn_len, ↓dn_gln, ↓dn_cc, ↓dn_cb, ↓dn_and, ↓dn_or, ↓dn_not, ↓dn_cite, ↓dn_ec, ↓dn_ei, ↓dn_skip, ↓dn_seq, ↓dn_set, ↓dn_inc, ↓dn_putf, ↓dn_putz, ↓dn_ast, ↓dn_exp, ↓dn_if, ↓dn_ret, ↓dn_retz, ↓dn_retv, ↓dn_brk, ↓dn_cont, ↓dn_cs, ↓dn_sw, ↓dn_pop32, ↓dn_pop64, ↓dn_aop, ↓dn_call, ↓dn_max, ↓dn_min, ↓dn_acp, ↓dn_i2l, ↓dn_args0, ↓dn_args1, og_pad, og_ent, og_rlt, og_rle, og_rgt, og_rge, og_req, og_rne, og_padd, og_psub, og_pmul, List.getD_cons_zero, List.getD_cons_succ, List.set_cons_zero, List.set_cons_succ, List.length_cons, List.length_nil, List.cons_append, List.nil_append, List.replicate, List.append_nil, Nat.reduceAdd, Nat.reduceSub, Nat.reduceEqDiff, if_true, if_false, reduceIte, Int.reduceAdd, Int.reduceSub, Int.reduceMul, Int.reduceNeg, Int.reduceLT, Int.reduceLE, Int.cast_ofNat_Int, true_or, or_true, true_and, and_true, false_and, List.mem_cons, List.not_mem_nil, or_false, false_or, ne_eq]
        refine r_qBracket hq4.2.2.1 hq4.2.2.2.2.1 (by omega) ⟨fun q => ⟨fun _ => ?_, fun z => absurd r3.1.1 z⟩, fun q => ?_⟩
        · rw [v3]
          exact r_fail r3.1.1 (by decide) (fun h5 l5 f5 => Or.inr ⟨q, l5, f5⟩)
        · have q : br V = -1 := by simpa using q
          first | exact Or.inl ⟨q, rfl⟩ | exact Or.inl q
      · rintro e5 h5 (⟨q, rfl⟩ | ⟨q, l5, f5⟩)
        · simp -implicitDefEqProofs only [↓dn_den, ↓dn_loc, ↓dn_k, ↓dn_add, ↓dn_sub, ↓dn_mul, ↓dn_div, ↓dn_rem, ↓dn_bop, ↓dn_ladd, ↓dn_lsub, ↓dn_lmul, ↓dn_ldiv, ↓dn_lrem, ↓dn_land, ↓dn_l2i, ↓dn_neg, ↓dn_get, ↓dn_fix, ↓dn_ald, ↓dn_gld, ↓dn_yld, ↓dn_len, ↓dn_gln, ↓dn_cc, ↓dn_cb, ↓dn_and, ↓dn_or, ↓dn_not, ↓dn_cite, ↓dn_ec, ↓dn_ei, ↓dn_skip, ↓dn_seq, ↓dn_set, ↓dn_inc, ↓dn_putf, ↓dn_putz, ↓dn_ast, ↓dn_exp, ↓dn_if, ↓dn_ret, ↓dn_retz, ↓dn_retv, ↓dn_brk, ↓dn_cont, ↓dn_cs, ↓dn_sw, ↓dn_pop32, ↓dn_pop64, ↓dn_aop, ↓dn_call, ↓dn_max, ↓dn_min, ↓dn_acp, ↓dn_i2l, ↓dn_args0, ↓dn_args1, og_pad, og_ent, og_rlt, og_rle, og_rgt, og_rge, og_req, og_rne, og_padd, og_psub, og_pmul, List.getD_cons_zero, List.getD_cons_succ, List.set_cons_zero, List.set_cons_succ, List.length_cons, List.length_nil, List.cons_append, List.nil_append, List.replicate, List.append_nil, Nat.reduceAdd, Nat.reduceSub, Nat.reduceEqDiff, if_true, if_false, reduceIte, Int.reduceAdd, Int.reduceSub, Int.reduceMul, Int.reduceNeg, Int.reduceLT, Int.reduceLE, Int.cast_ofNat_Int, true_or, or_true, true_and, and_true, false_and, List.mem_cons, List.not_mem_nil, or_false, false_or, ne_eq]
          have fin := hE h5 a c V o hq4 hlo q (runs_end hr (by rw [mst_G]; unfold mG; rw [if_neg hnb, if_neg hs1, if_neg hs, if_neg hb, if_neg (by omega)])).1 fz4
          first | exact fin | exact ⟨by decide, fin⟩
        · simp -implicitDefEqProofs only [↓dn_den, ↓dn_loc, ↓dn_k, ↓dn_add, ↓dn_sub, ↓dn_mul, ↓dn_div, ↓dn_rem, ↓dn_bop, ↓dn_ladd, ↓dn_lsub, ↓dn_lmul, ↓dn_ldiv, ↓dn_lrem, ↓dn_land, ↓dn_l2i, ↓dn_neg, ↓dn_get, ↓dn_fix, ↓dn_ald, ↓dn_gld, ↓dn_yld, ↓dn_len, ↓dn_gln, ↓dn_cc, ↓dn_cb, ↓dn_and, ↓dn_or, ↓dn_not, ↓dn_cite, ↓dn_ec, ↓dn_ei, ↓dn_skip, ↓dn_seq, ↓dn_set, ↓dn_inc, ↓dn_putf, ↓dn_putz, ↓dn_ast, ↓dn_exp, ↓dn_if, ↓dn_ret, ↓dn_retz, ↓dn_retv, ↓dn_brk, ↓dn_cont, ↓dn_cs, ↓dn_sw, ↓dn_pop32, ↓dn_pop64, ↓dn_aop, ↓dn_call, ↓dn_max, ↓dn_min, ↓dn_acp, ↓dn_i2l, ↓dn_args0, ↓dn_args1, og_pad, og_ent, og_rlt, og_rle, og_rgt, og_rge, og_req, og_rne, og_padd, og_psub, og_pmul, List.getD_cons_zero, List.getD_cons_succ, List.set_cons_zero, List.set_cons_succ, List.length_cons, List.length_nil, List.cons_append, List.nil_append, List.replicate, List.append_nil, Nat.reduceAdd, Nat.reduceSub, Nat.reduceEqDiff, if_true, if_false, reduceIte, Int.reduceAdd, Int.reduceSub, Int.reduceMul, Int.reduceNeg, Int.reduceLT, Int.reduceLE, Int.cast_ofNat_Int, true_or, or_true, true_and, and_true, false_and, List.mem_cons, List.not_mem_nil, or_false, false_or, ne_eq]
          have fin := hF h5 (1, tS B n a) (runs_end hr (by rw [mst_G]; unfold mG; rw [if_neg hnb, if_neg hs1, if_neg hs, if_neg hb, if_pos q])).1 (qI_flt hq4 ha.2 hn.2.1 l5 (f5 _ _ (by decide))) (frZ_tr fz4 (fr5_Z f5))
          first | exact fin | exact ⟨by decide, fin⟩
end
end
