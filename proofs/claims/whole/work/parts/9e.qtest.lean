section
-- the reference's tests
section
variable {h h0 h' : Hp} {B : Int → Int} {n a o o0 pu : Int} {c V W W0 : List Int} {K : Int → Hp → Prop} {R R' : PS} {s s' : MS} {k : Nat}
theorem adv_gFa : Adv n (gFa B n pu o) := by
  intro a c h0 h1
  unfold gFa
  split
  · rename_i w
    have wg := wrd_go (B := B) (n := n) (a := a) (by omega)
    have te := tE_le (B := B) h1
    exact ⟨wg.1, te, by show (((c ++ [1]).length : Nat) : Int) + a ≤ c.length + tE B n a; rw [List.length_append]; simp; omega⟩
  · exact adv_gCmp (adv_gS _) a c h0 h1
theorem okt_hd (hv : ∀ v ∈ V, okt v) : ¬ (1 ≤ hd0 V ∧ hd0 V ≤ 4) := by
  cases V with
  | nil => decide
  | cons v V =>
    have := hv v List.mem_cons_self
    unfold okt at this
    show ¬ (1 ≤ v ∧ v ≤ 4)
    omega
def tD (h2 : Hp) (B : Int → Int) (n : Int) (R : PS) : Prop := (∃ a c V o, qN h2 B n a c V o ∧ hSq V = false ∧ R = .inl (a, c ++ dcl V)) ∨ (∃ z, R = .inr z ∧ fltM h2 z.1 z.2)
theorem qN_open {v a' : Int} (hq : qN h B n a c V o) (ho : ¬ o = 6) (hv : okt v) (hr : refS h' B n a') (ha : a < a') (hs : stM h' (v :: V)) (h94 : h' 1000 94 = o + 1) (hf : ∀ i k, (i = 1070 ∨ (i = 1000 ∧ (k = 91 ∨ k = 95))) → h' i k = h i k) : qN h' B n a' c (v :: V) (o + 1) := by
  obtain ⟨⟨q1, q2, q3, q4, q5, q6, q7⟩, b0, qo, qv⟩ := hq
  refine ⟨⟨hr, cdM_fr q2 (fun i k hi => hf i k (by omega)), hs, h94, by simp only [List.length_cons]; omega, by omega, by omega⟩, by rw [hf _ _ (by decide)]; exact b0, by simp only [List.length_cons]; omega, fun x hx => ?_⟩
  rcases List.mem_cons.mp hx with e | e
  · rw [e]; exact hv
  · exact qv x e
theorem r_qTest (hk : h 1000 48 = kdM pu) (ht : txM h B n) (hq : qN h B n a c [] 0)
    (hT : ∀ h' a' c', gT B n pu 6 a c = .inl (a', c') → refS h' B n a' → cdM h' c' → (c'.length : Int) ≤ a' → frZ h h' → K 0 h')
    (hF : ∀ h' z, gT B n pu 6 a c = .inr z → fltM h' z.1 z.2 → frZ h h' → K 0 h') : m_Model_qTest [1000] h K := by
  have hn := ht.2.2.1
  obtain ⟨k, hr⟩ := sim_T (B := B) (n := n) (pu := pu) (a := a) (c := c) hn.2.1 hq.1.1.2.1.1 hq.1.1.2.1.2
  generalize gT B n pu 6 a c = R at hT hF hr
  unfold m_Model_qTest
  simp -implicitDefEqProofs only [↓dn_den, ↓dn_loc, ↓dn_k, ↓dn_add, ↓dn_sub, ↓dn_mul, ↓dn_div, ↓dn_rem, ↓dn_bop, ↓dn_ladd, ↓dn_lsub, ↓dn_lmul, ↓dn_ldiv, ↓dn_lrem, ↓dn_land, ↓dn_l2i, ↓dn_neg, ↓dn_get, ↓dn_fix, ↓dn_ald, ↓dn_gld, ↓dn_yld, ↓dn_len, ↓dn_gln, ↓dn_cc, ↓dn_cb, ↓dn_and, ↓dn_or, ↓dn_not, ↓dn_cite, ↓dn_ec, ↓dn_ei, ↓dn_skip, ↓dn_seq, ↓dn_set, ↓dn_inc, ↓dn_putf, ↓dn_putz, ↓dn_ast, ↓dn_exp, ↓dn_if, ↓dn_ret, ↓dn_retz, ↓dn_retv, ↓dn_brk, ↓dn_cont, ↓dn_cs, ↓dn_sw, ↓dn_pop32, ↓dn_pop64, ↓dn_aop, ↓dn_call, ↓dn_max, ↓dn_min, ↓dn_acp, ↓dn_i2l, ↓dn_args0, ↓dn_args1, og_pad, og_ent, og_rlt, og_rle, og_rgt, og_rge, og_req, og_rne, og_padd, og_psub, og_pmul, List.getD_cons_zero, List.getD_cons_succ, List.set_cons_zero, List.set_cons_succ, List.length_cons, List.length_nil, List.cons_append, List.nil_append, List.replicate, List.append_nil, Nat.reduceAdd, Nat.reduceSub, Nat.reduceEqDiff, if_true, if_false, reduceIte, Int.reduceAdd, Int.reduceSub, Int.reduceMul, Int.reduceNeg, Int.reduceLT, Int.reduceLE, Int.cast_ofNat_Int, true_or, or_true, true_and, and_true, false_and, List.mem_cons, List.not_mem_nil, or_false, false_or, ne_eq]
  refine ⟨fun e2 h2 => (∃ x1 x2, e2 = [1000, x1, x2]) ∧ frZ h h2 ∧ tD h2 B n R, ?_, ?_⟩
  · refine og_loop (k + 1) (fun i e2 h2 => ∃ x1 x2, e2 = [1000, x1, x2] ∧ frZ h h2 ∧ ((x1 = 1 ∧ ∃ m a c V o, m + i ≤ k ∧ qN h2 B n a c V o ∧ nruns B n pu m (false, a, c, V, o) R) ∨ ((x1 = 0 ∨ h2 1000 5 ≠ 0) ∧ tD h2 B n R))) ⟨1, _, rfl, frZ_rf, Or.inl ⟨rfl, k, a, c, [], 0, by omega, hq, hr⟩⟩ ?_
    rintro i e2 h2 hi ⟨x1, x2, rfl, fz, hj⟩
    simp -implicitDefEqProofs only [↓dn_den, ↓dn_loc, ↓dn_k, ↓dn_add, ↓dn_sub, ↓dn_mul, ↓dn_div, ↓dn_rem, ↓dn_bop, ↓dn_ladd, ↓dn_lsub, ↓dn_lmul, ↓dn_ldiv, ↓dn_lrem, ↓dn_land, ↓dn_l2i, ↓dn_neg, ↓dn_get, ↓dn_fix, ↓dn_ald, ↓dn_gld, ↓dn_yld, ↓dn_len, ↓dn_gln, ↓dn_cc, ↓dn_cb, ↓dn_and, ↓dn_or, ↓dn_not, ↓dn_cite, ↓dn_ec, ↓dn_ei, ↓dn_skip, ↓dn_seq, ↓dn_set, ↓dn_inc, ↓dn_putf, ↓dn_putz, ↓dn_ast, ↓dn_exp, ↓dn_if, ↓dn_ret, ↓dn_retz, ↓dn_retv, ↓dn_brk, ↓dn_cont, ↓dn_cs, ↓dn_sw, ↓dn_pop32, ↓dn_pop64, ↓dn_aop, ↓dn_call, ↓dn_max, ↓dn_min, ↓dn_acp, ↓dn_i2l, ↓dn_args0, ↓dn_args1, og_pad, og_ent, og_rlt, og_rle, og_rgt, og_rge, og_req, og_rne, og_padd, og_psub, og_pmul, List.getD_cons_zero, List.getD_cons_succ, List.set_cons_zero, List.set_cons_succ, List.length_cons, List.length_nil, List.cons_append, List.nil_append, List.replicate, List.append_nil, Nat.reduceAdd, Nat.reduceSub, Nat.reduceEqDiff, if_true, if_false, reduceIte, Int.reduceAdd, Int.reduceSub, Int.reduceMul, Int.reduceNeg, Int.reduceLT, Int.reduceLE, Int.cast_ofNat_Int, true_or, or_true, true_and, and_true, false_and, List.mem_cons, List.not_mem_nil, or_false, false_or, ne_eq, og_i32]
    rcases hj with ⟨rfl, m, a, c, V, o, hm, hq, hr⟩ | ⟨hx, hj⟩
    · have hm0 : 0 < m := by
        cases m with
        | zero => exact absurd hr (by unfold nruns; exact id)
        | succ m => omega
      refine ⟨fun _ => ⟨fun _ => ?_, fun z => absurd hq.1.1.1.1 z⟩, fun z => absurd z (by decide)⟩
      have go1 : ∀ y2 h3 m' a c V o, m' < m → frZ h h3 → qN h3 B n a c V o → nruns B n pu m' (false, a, c, V, o) R → og_nx (k + 1) (fun i e2 h2 => ∃ x1 x2, e2 = [1000, x1, x2] ∧ frZ h h2 ∧ ((x1 = 1 ∧ ∃ m a c V o, m + i ≤ k ∧ qN h2 B n a c V o ∧ nruns B n pu m (false, a, c, V, o) R) ∨ ((x1 = 0 ∨ h2 1000 5 ≠ 0) ∧ tD h2 B n R))) i [1000, 1, y2] h3 := fun y2 h3 m' a c V o hm' f3 q3 r3 => og_nx_mk (by omega) ⟨1, y2, rfl, f3, Or.inl ⟨rfl, m', a, c, V, o, by omega, q3, r3⟩⟩
      have go0 : ∀ y1 y2 h3, (y1 = 0 ∨ h3 1000 5 ≠ 0) → frZ h h3 → tD h3 B n R → og_nx (k + 1) (fun i e2 h2 => ∃ x1 x2, e2 = [1000, x1, x2] ∧ frZ h h2 ∧ ((x1 = 1 ∧ ∃ m a c V o, m + i ≤ k ∧ qN h2 B n a c V o ∧ nruns B n pu m (false, a, c, V, o) R) ∨ ((x1 = 0 ∨ h2 1000 5 ≠ 0) ∧ tD h2 B n R))) i [1000, y1, y2] h3 := fun y1 y2 h3 hy f3 j3 => og_nx_mk (by omega) ⟨y1, y2, rfl, f3, Or.inr ⟨hy, j3⟩⟩
      have ht2 := txM_Z ht fz
      have hk2 : h2 1000 48 = kdM pu := by rw [fz _ _ (by decide) (by decide) (by decide)]; exact hk
      have ha := hq.1.1.2.1
      have hlen := hq.1.2.2.2.2.1
      have ho := hq.1.2.2.2.2.2
      have te := tE_le (B := B) ha.2
      have sp := tS_sp B n a
      have le : tS B n a ≤ n := rn_le ha.2
      have s91 := sgn_iff (B := B) (n := n) (a := a) (x := 91) ha.1 (by decide)
      have w54 : wnM 1054 = 21 := by decide
      refine r_look ht2 hq.1.1 (fun h3 hr3 v3 f3 => ?_)
      have ht3 := txM_Z ht2 (fr2_Z f3)
      have hq3 := qN_at hq hr3 (Int.le_refl _) (fun i k hi => f3 i k (by omega))
      have fz3 := frZ_tr fz (fr2_Z f3)
      refine ⟨fun z => ?_, fun z => ?_⟩
      · have e91 := s91.mpr z
        have sg := sgn_go (B := B) (n := n) (a := a) (by omega)
        rw [v3]
        refine r_qOpens (o := o) hq3.1.2.2.1 (by omega) hr3.1.1 hq3.1.2.2.2.1 ho (fun o6 h5 l5 f5 => ?_) (fun o6 h5 s5 o5 f5 => ?_)
        · have e2 : h5 1000 2 = tS B n a := by rw [f5 _ _ (by decide)]; exact v3
          rw [e2]
          have e5 : ∀ k, k ≠ 2 → og_up h5 1000 2 (tS B n a + 1) 1000 k = h5 1000 k := fun k hk => og_up_k hk
          refine ⟨by omega, go0 _ _ _ (Or.inr (by rw [e5 _ (by decide), l5.1]; decide)) (frZ_tr fz3 (frZ_tr (fr5_Z f5) (fun i k _ _ r => by unfold og_up; exact if_neg (by omega)))) (Or.inr ⟨(4, tS B n a), ?_, ?_⟩)⟩
          · exact (nruns_end hr (by rw [nst_P]; unfold nT; rw [if_pos e91, if_pos o6])).1
          · exact ⟨by rw [e5 _ (by decide)]; exact l5.1, by rw [e5 _ (by decide)]; exact l5.2.1, l5.2.2⟩
        · have e2 : h5 1000 2 = tS B n a := by rw [f5 _ _ (by decide) (by decide)]; exact v3
          rw [e2]
          obtain ⟨k', ek, hr'⟩ := nruns_go hr (show nst B n pu (false, a, c, V, o) = .inl (false, tE B n a, c, 25 :: V, o + 1) by rw [nst_P]; unfold nT; rw [if_pos e91, if_neg o6])
          refine ⟨by omega, go1 _ _ k' _ _ _ _ (by omega) (frZ_tr fz3 (fun i k p q r => by unfold og_up; rw [if_neg (by omega)]; exact f5 i k q (by omega))) (qN_open hq3 o6 (by unfold okt; omega) (a' := tE B n a) (refS_sgn (by decide) e91 hr3 ⟨?_, ?_⟩ og_up_eq ?_) (by omega) (stM_fr s5 (fun i k hi => by unfold og_up; exact if_neg (by omega))) ?_ (fun i k hi => ?_)) hr'⟩
          · rw [og_up_k (by decide), f5 _ _ (by decide) (by decide)]; exact hr3.1.1
          · rw [og_up_k (by decide), f5 _ _ (by decide) (by decide)]; exact hr3.1.2
          · rw [og_up_k (by decide), f5 _ _ (by decide) (by decide)]
          · rw [og_up_k (by decide)]; exact o5
          · unfold og_up; rw [if_neg (by omega)]; exact f5 i k (by omega) (by omega)
      have n91 : ¬ sgn B n a = 91 := fun q => z (s91.mp q)
      refine r_isHC (w := 1054) (by unfold idW; omega) ht3 hr3 (fun w h4 r4 v4 f4 => ?_) (fun w h4 r4 v4 f4 => ?_)
      · rw [w54] at w
        have wg := wrd_go (B := B) (n := n) (a := a) (by omega)
        have f4 := fr2_tr f3 f4
        have hq4 := qN_at hq r4 (Int.le_refl _) (fun i k hi => f4 i k (by omega))
        have fz4 := frZ_tr fz (fr2_Z f4)
        rw [v4]
        refine r_qOpens (o := o) hq4.1.2.2.1 (by omega) r4.1.1 hq4.1.2.2.2.1 ho (fun o6 h5 l5 f5 => ?_) (fun o6 h5 s5 o5 f5 => ?_)
        · have h55 : h5 1000 5 ≠ 0 := by rw [l5.1]; decide
          refine r_asksF h55 (go0 _ _ _ (Or.inr h55) (frZ_tr fz4 (fr5_Z f5)) (Or.inr ⟨(4, tS B n a), ?_, l5⟩))
          exact (nruns_end hr (by rw [nst_P]; unfold nT; rw [if_neg n91, if_pos w, if_pos o6])).1
        · obtain ⟨k', ek, hr'⟩ := nruns_go hr (show nst B n pu (false, a, c, V, o) = .inl (false, tE B n a, c, 12 :: V, o + 1) by rw [nst_P]; unfold nT; rw [if_neg n91, if_pos w, if_neg o6])
          have r5 : refS h5 B n a := refS_fr r4 (fun k hk => f5 _ _ (by decide) (by omega))
          have z5 : frZ h2 h5 := frZ_tr (fr2_Z f4) (fun i k p q r => f5 i k q (by omega))
          refine r_asks (w := 1054) (by unfold idW; omega) (txM_Z ht2 z5) r5 (fun _ h6 r6 f6 => go1 _ _ k' _ _ _ _ (by omega) (frZ_tr fz (frZ_tr z5 (frX_Z f6))) (qN_open hq4 o6 (by unfold okt; omega) r6 wg.1 (stM_fr s5 (fun i k hi => f6 i k (by omega))) ?_ (fun i k hi => ?_)) hr') (fun q => absurd (by rw [w54]; exact w) q)
          · rw [f6 _ _ (by decide)]; exact o5
          · rw [f6 i k (by omega)]; exact f5 i k (by omega) (by omega)
      · rw [w54] at w
        have f4 := fr2_tr f3 f4
        have hq4 := qN_at hq r4 (Int.le_refl _) (fun i k hi => f4 i k (by omega))
        have fz4 := frZ_tr fz (fr2_Z f4)
        refine r_qFact (pu := pu) (b := 0) (by rw [f4 _ _ (by decide)]; exact hk2) (txM_Z ht2 (fr2_Z f4)) (okt_hd hq.2.2.2) hq4.1 hq4.2.1 (fun h5 a5 c5 e5 hq5 b5 f5 => ?_) (fun h5 z e5 l5 f5 => ?_)
        · have ad := adv_gFa (B := B) (n := n) (pu := pu) (o := o) a c ha.1 ha.2
          rw [e5] at ad
          have ad1 : a < a5 := ad.1
          have hl5 := hq5.2.2.2.2.1
          have ha5 := hq5.1.2.1
          have hol := hq.2.2.1
          have em : nst B n pu (false, a, c, V, o) = .inl (gE a5 (dN V c5 o)) := by rw [nst_P, nT_fa n91 w, e5]
          have fz5 := frZ_tr fz4 f5
          refine r_qDropsNots hq5.2.2.1 hq5.2.1 hq5.1.1.1 hq5.2.2.2.1 (by omega) (by omega) (fun h6 c6 V6 o6 e6 s6 d6 q6 l6 f6 => ?_)
          rw [e6] at em
          obtain ⟨k', ek, hr'⟩ := nruns_go hr em
          have fz6 := frZ_tr fz5 (fun i k p q r => f6 i k p (by omega))
          have hq6 : qN h6 B n a5 c6 V6 o6 := ⟨⟨refS_fr hq5.1 (fun k hk => f6 _ _ (by decide) (by omega)), d6, s6, q6, by omega, by omega, by omega⟩, by rw [f6 _ _ (by decide) (by decide)]; exact b5, by omega, fun v hv => hq.2.2.2 v (l6.2.2.1 v hv)⟩
          refine ⟨fun _ => ?_, fun z => absurd hq6.1.1.1.1 z⟩
          refine r_qGoesOnTest (txM_Z ht fz6) hq6 hr' (fun h7 a7 c7 V7 o7 k7 hk7 hq7 hr7 f7 => ?_) (fun h7 z ez l7 f7 => ?_) (fun h7 a7 c7 V7 o7 hq7 hs7 e7 f7 => ?_)
          · exact ⟨fun _ => go1 _ _ k7 _ _ _ _ (by omega) (frZ_tr fz6 f7) hq7 hr7, fun z => absurd z (by decide)⟩
          · exact ⟨fun z => absurd rfl z, fun _ => go0 _ _ h7 (Or.inl rfl) (frZ_tr fz6 f7) (Or.inr ⟨z, ez, l7⟩)⟩
          · exact ⟨fun z => absurd rfl z, fun _ => go0 _ _ h7 (Or.inl rfl) (frZ_tr fz6 f7) (Or.inl ⟨a7, c7, V7, o7, hq7, hs7, e7⟩)⟩
        · have h55 : h5 1000 5 ≠ 0 := by rw [l5.1]; exact l5.2.2
          refine r_qDropsNotsF h55 ⟨fun z => absurd z h55, fun _ => go0 _ _ h5 (Or.inl rfl) (frZ_tr fz4 f5) (Or.inr ⟨z, ?_, l5⟩)⟩
          exact (nruns_end hr (by rw [nst_P, nT_fa n91 w, e5])).1
    · refine ⟨fun z => ⟨fun y => ?_, fun y => ?_⟩, fun z => ?_⟩
      · exact absurd hx (fun q => q.elim z (fun q => q y))
      · first | exact ⟨⟨_, _, rfl⟩, fz, hj⟩ | exact ⟨fz, hj⟩
      · first | exact ⟨⟨_, _, rfl⟩, fz, hj⟩ | exact ⟨fz, hj⟩
  · rintro e2 h2 ⟨⟨x1, x2, rfl⟩, fz, hj⟩
    rcases hj with ⟨a, c, V, o, hq, hsq, eR⟩ | ⟨z, eR, l2⟩
    · have hlen := hq.1.2.2.2.2.1
      have ha := hq.1.1.2.1
      have hs0 : stM h2 (V ++ []) := by rw [List.append_nil]; exact hq.1.2.2.1
      refine og_loop V.length (fun i e3 h3 => e3 = [1000, x1, x2] ∧ drI h2 V [] c i h3) ⟨rfl, drI_0 hs0 hq.1.2.1⟩ ?_
      rintro i e3 h3 hi ⟨rfl, hd⟩
      simp -implicitDefEqProofs only [↓dn_den, ↓dn_loc, ↓dn_k, ↓dn_add, ↓dn_sub, ↓dn_mul, ↓dn_div, ↓dn_rem, ↓dn_bop, ↓dn_ladd, ↓dn_lsub, ↓dn_lmul, ↓dn_ldiv, ↓dn_lrem, ↓dn_land, ↓dn_l2i, ↓dn_neg, ↓dn_get, ↓dn_fix, ↓dn_ald, ↓dn_gld, ↓dn_yld, ↓dn_len, ↓dn_gln, ↓dn_cc, ↓dn_cb, ↓dn_and, ↓dn_or, ↓dn_not, ↓dn_cite, ↓dn_ec, ↓dn_ei, ↓dn_skip, ↓dn_seq, ↓dn_set, ↓dn_inc, ↓dn_putf, ↓dn_putz, ↓dn_ast, ↓dn_exp, ↓dn_if, ↓dn_ret, ↓dn_retz, ↓dn_retv, ↓dn_brk, ↓dn_cont, ↓dn_cs, ↓dn_sw, ↓dn_pop32, ↓dn_pop64, ↓dn_aop, ↓dn_call, ↓dn_max, ↓dn_min, ↓dn_acp, ↓dn_i2l, ↓dn_args0, ↓dn_args1, og_pad, og_ent, og_rlt, og_rle, og_rgt, og_rge, og_req, og_rne, og_padd, og_psub, og_pmul, List.getD_cons_zero, List.getD_cons_succ, List.set_cons_zero, List.set_cons_succ, List.length_cons, List.length_nil, List.cons_append, List.nil_append, List.replicate, List.append_nil, Nat.reduceAdd, Nat.reduceSub, Nat.reduceEqDiff, if_true, if_false, reduceIte, Int.reduceAdd, Int.reduceSub, Int.reduceMul, Int.reduceNeg, Int.reduceLT, Int.reduceLE, Int.cast_ofNat_Int, true_or, or_true, true_and, and_true, false_and, List.mem_cons, List.not_mem_nil, or_false, false_or, ne_eq]
      have h5 : h3 1000 5 = 0 := by rw [hd.2.2 _ _ (by decide) (by decide)]; exact hq.1.1.1.1
      refine ⟨fun _ => ?_, fun z => absurd h5 z⟩
      rw [drI_len hd hi]
      simp only [List.length_nil]
      refine ⟨fun z => ?_, fun z => ?_⟩
      · have hiV : i < V.length := by omega
        have ov := hq.2.2.2 _ (mem_gd hiV)
        have n25 : ¬ V.getD i 0 = 25 := fun q => by
          have := hSq_ex.mpr ⟨i, hiV, q⟩
          rw [hsq] at this; cases this
        unfold okt at ov
        exact drI_step hd hiV (by unfold okc; omega) (by simp; omega) (fun h4 d4 => og_nx_mk hiV ⟨rfl, d4⟩)
      · have e : i = V.length := by omega
        subst e
        obtain ⟨d1, d2, d3⟩ := hd
        rw [List.take_length] at d2
        have lc : ((c ++ dcl V).length : Int) = c.length + V.length := by rw [List.length_append]; unfold dcl; rw [List.length_map]; omega
        exact hT h3 a (c ++ dcl V) eR (refS_fr hq.1.1 (fun k hk => d3 _ _ (by decide) (by omega))) d2 (by omega) (frZ_tr fz (frD_Z d3))
    · have h5 : h2 1000 5 ≠ 0 := by rw [l2.1]; exact l2.2.2
      refine og_loop 0 (fun i e3 h3 => e3 = [1000, x1, x2] ∧ h3 = h2) ⟨rfl, rfl⟩ ?_
      rintro i e3 h3 hi ⟨rfl, rfl⟩
      simp -implicitDefEqProofs only [↓dn_den, ↓dn_loc, ↓dn_k, ↓dn_add, ↓dn_sub, ↓dn_mul, ↓dn_div, ↓dn_rem, ↓dn_bop, ↓dn_ladd, ↓dn_lsub, ↓dn_lmul, ↓dn_ldiv, ↓dn_lrem, ↓dn_land, ↓dn_l2i, ↓dn_neg, ↓dn_get, ↓dn_fix, ↓dn_ald, ↓dn_gld, ↓dn_yld, ↓dn_len, ↓dn_gln, ↓dn_cc, ↓dn_cb, ↓dn_and, ↓dn_or, ↓dn_not, ↓dn_cite, ↓dn_ec, ↓dn_ei, ↓dn_skip, ↓dn_seq, ↓dn_set, ↓dn_inc, ↓dn_putf, ↓dn_putz, ↓dn_ast, ↓dn_exp, ↓dn_if, ↓dn_ret, ↓dn_retz, ↓dn_retv, ↓dn_brk, ↓dn_cont, ↓dn_cs, ↓dn_sw, ↓dn_pop32, ↓dn_pop64, ↓dn_aop, ↓dn_call, ↓dn_max, ↓dn_min, ↓dn_acp, ↓dn_i2l, ↓dn_args0, ↓dn_args1, og_pad, og_ent, og_rlt, og_rle, og_rgt, og_rge, og_req, og_rne, og_padd, og_psub, og_pmul, List.getD_cons_zero, List.getD_cons_succ, List.set_cons_zero, List.set_cons_succ, List.length_cons, List.length_nil, List.cons_append, List.nil_append, List.replicate, List.append_nil, Nat.reduceAdd, Nat.reduceSub, Nat.reduceEqDiff, if_true, if_false, reduceIte, Int.reduceAdd, Int.reduceSub, Int.reduceMul, Int.reduceNeg, Int.reduceLT, Int.reduceLE, Int.cast_ofNat_Int, true_or, or_true, true_and, and_true, false_and, List.mem_cons, List.not_mem_nil, or_false, false_or, ne_eq]
      exact ⟨fun z => absurd z h5, fun _ => hF h3 z eR l2 fz⟩
end
end
