section
-- the reference's sums
section
variable {h h0 h' : Hp} {B : Int → Int} {n a o o0 pu : Int} {c V W W0 : List Int} {K : Int → Hp → Prop} {R R' : PS} {s s' : MS} {k : Nat}
theorem sim_P2 (hn : n ≤ 1600) : ∀ d : Nat, SP B n pu (gP B n pu d) (6 - (d : Int))
  | 0 => sim_part (can := false) hn (Or.inr ⟨rfl, rfl⟩) (fun z => by cases z) (fun z => by cases z)
  | d + 1 => by
    have ih := sim_P2 hn d
    have eo : 6 - ((d + 1 : Nat) : Int) + 1 = 6 - (d : Int) := by omega
    refine sim_part (can := true) hn (Or.inl ⟨rfl, by omega⟩) (fun _ a c V R hV hl h0 h1 hi hr => ?_) (fun _ => by rw [eo]; exact ih)
    rw [eo] at hi ⊢
    exact sim_sum (adv_gP d) ih hV hl h0 h1 hi hr hn
theorem sim_S2 (hn : n ≤ 1600) (ho : o ≤ 6) (h0 : 0 ≤ a) (h1 : a ≤ n) : Tm B n pu (false, a, c, [], o) (gS B n pu (6 - o).toNat a c) := by
  have eo : o = 6 - ((6 - o).toNat : Int) := by omega
  generalize (6 - o).toNat = d at eo
  subst eo
  refine sim_sum (adv_gP d) (sim_P2 hn d) trivial trivial h0 h1 (fun a2 c2 e2 c'' ops' hs' hc2 g0 g1 gn gm => ?_) (fun z e2 => e2) hn
  have hb : br (ops' ++ []) = -1 := by rw [br_app (fun v hv => (oS_op hs' v hv).2)]; rfl
  have e3 : gS B n pu d a c = .inl (a2, c2) := e2
  rw [e3]
  refine Tm_end ?_
  rw [mst_G]
  unfold mG
  rw [hb, if_neg (by omega), if_neg gn, if_neg gm, if_neg (by decide), if_neg (by decide), List.append_nil, ← hc2]
/-- reader, codes, stack and opened -/
def qB (h : Hp) (B : Int → Int) (n a : Int) (c W : List Int) (o : Int) : Prop := refS h B n a ∧ cdM h c ∧ stM h W ∧ h 1000 94 = o ∧ (c.length : Int) + W.length ≤ a ∧ -1600 ≤ o ∧ o ≤ 6
theorem br_none (hb : br V = -1) (hs : shp V) (hl : lo60 V) : cn V = 0 ∧ ∀ v ∈ V, okc v := by
  obtain ⟨L, t1, t2, t3, t4, t5⟩ := tw_sp nB V
  have eb := br_at t4 t3 t5
  have hL : L = V.length := by
    by_cases q : L < V.length
    · rw [if_pos q, hb] at eb
      have := t5 q
      rw [← eb] at this
      exact absurd this (by decide)
    · omega
  have dw := dw_sp dw_nB V hs hl
  rw [t2, hL, List.drop_length] at dw
  refine ⟨dw.2.2.symm, fun v hv => okv_B (shp_mem hs v hv) ?_⟩
  obtain ⟨i, hi, e⟩ := List.getElem_of_mem hv
  have := t4 i (by omega)
  rw [show V.getD i 0 = v by simp [List.getD_eq_getElem?_getD, hi, e]] at this
  unfold nB at this
  simpa using this
def sJ (h2 : Hp) (B : Int → Int) (n o0 : Int) (W0 : List Int) (R : PS) : Prop := (∃ a c V o, qI h2 B n o0 W0 a c V o ∧ lo60 V ∧ br V = -1 ∧ R = .inl (a, c ++ dcl V)) ∨ (∃ z, R = .inr z ∧ fltQ h2 z)
theorem r_qSums {b : Int} (hk : h 1000 48 = kdM pu) (ht : txM h B n) (hW : ¬ (1 ≤ hd0 W0 ∧ hd0 W0 ≤ 4)) (hq : qB h B n a c W0 o) (hb : h 1000 95 = b)
    (hT : ∀ h' a' c', gS B n pu (6 - o).toNat a c = .inl (a', c') → qB h' B n a' c' W0 o → h' 1000 95 = b → frZ h h' → K 0 h')
    (hF : ∀ h' z, gS B n pu (6 - o).toNat a c = .inr z → fltQ h' z → frZ h h' → K 0 h') : m_Model_qSums [1000] h K := by
  have hn := ht.2.2.1
  obtain ⟨q1, q2, q3, q4, q5, q6, q7⟩ := hq
  obtain ⟨k, hr⟩ := sim_S2 (B := B) (n := n) (pu := pu) (a := a) (c := c) (o := o) hn.2.1 q7 q1.2.1.1 q1.2.1.2
  generalize gS B n pu (6 - o).toNat a c = R at hT hF hr
  unfold m_Model_qSums
  simp -implicitDefEqProofs only [↓dn_den, ↓dn_loc, ↓dn_k, ↓dn_add, ↓dn_sub, ↓dn_mul, ↓dn_div, ↓dn_rem, ↓dn_bop, ↓dn_ladd, ↓dn_lsub, ↓dn_lmul, ↓dn_ldiv, ↓dn_lrem, ↓dn_land, ↓dn_l2i, ↓dn_neg, ↓dn_get, ↓dn_fix, ↓dn_ald, ↓dn_gld, ↓dn_yld, ↓dn_len, ↓dn_gln, ↓dn_cc, ↓dn_cb, ↓dn_and, ↓dn_or, ↓dn_not, ↓dn_cite, ↓dn_ec, ↓dn_ei, ↓dn_skip, ↓dn_seq, ↓dn_set, ↓dn_inc, ↓dn_putf, ↓dn_putz, ↓dn_ast, ↓dn_exp, ↓dn_if, ↓dn_ret, ↓dn_retz, ↓dn_retv, ↓dn_brk, ↓dn_cont, ↓dn_cs, ↓dn_sw, ↓dn_pop32, ↓dn_pop64, ↓dn_aop, ↓dn_call, ↓dn_max, ↓dn_min, ↓dn_acp, ↓dn_i2l, ↓dn_args0, ↓dn_args1, og_pad, og_ent, og_rlt, og_rle, og_rgt, og_rge, og_req, og_rne, og_padd, og_psub, og_pmul, List.getD_cons_zero, List.getD_cons_succ, List.set_cons_zero, List.set_cons_succ, List.length_cons, List.length_nil, List.cons_append, List.nil_append, List.replicate, List.append_nil, Nat.reduceAdd, Nat.reduceSub, Nat.reduceEqDiff, if_true, if_false, reduceIte, Int.reduceAdd, Int.reduceSub, Int.reduceMul, Int.reduceNeg, Int.reduceLT, Int.reduceLE, Int.cast_ofNat_Int, true_or, or_true, true_and, and_true, false_and, List.mem_cons, List.not_mem_nil, or_false, false_or, ne_eq]
  rw [hb, q3.1]
  have i0 : qI (og_up h 1000 95 (W0.length : Int)) B n o W0 a c [] o := ⟨refS_fr q1 (fun k hk => og_up_k (by omega)), cdM_fr q2 (fun i k hi => by unfold og_up; exact if_neg (by omega)), stM_fr q3 (fun i k hi => by unfold og_up; exact if_neg (by omega)), by rw [og_up_k (by decide)]; exact q4, og_up_eq, by simp; omega, trivial, by show o = o + 0; omega, q6, q7⟩
  have z0 : frZ h (og_up h 1000 95 (W0.length : Int)) := fun i k p q r => by unfold og_up; exact if_neg (by omega)
  refine ⟨fun e2 h2 => (∃ x2, e2 = [1000, b, x2]) ∧ frZ h h2 ∧ sJ h2 B n o W0 R, ?_, ?_⟩
  · refine og_loop (k + 1) (fun i e2 h2 => ∃ x2, e2 = [1000, b, x2] ∧ frZ h h2 ∧ ((x2 = 1 ∧ ∃ m a c V o', m + i ≤ k ∧ qI h2 B n o W0 a c V o' ∧ runs B n pu m (false, a, c, V, o') R) ∨ (x2 = 0 ∧ sJ h2 B n o W0 R))) ⟨1, rfl, z0, Or.inl ⟨rfl, k, a, c, [], o, by omega, i0, hr⟩⟩ ?_
    rintro i e2 h2 hi ⟨x2, rfl, fz, hj⟩
    simp -implicitDefEqProofs only [↓dn_den, ↓dn_loc, ↓dn_k, ↓dn_add, ↓dn_sub, ↓dn_mul, ↓dn_div, ↓dn_rem, ↓dn_bop, ↓dn_ladd, ↓dn_lsub, ↓dn_lmul, ↓dn_ldiv, ↓dn_lrem, ↓dn_land, ↓dn_l2i, ↓dn_neg, ↓dn_get, ↓dn_fix, ↓dn_ald, ↓dn_gld, ↓dn_yld, ↓dn_len, ↓dn_gln, ↓dn_cc, ↓dn_cb, ↓dn_and, ↓dn_or, ↓dn_not, ↓dn_cite, ↓dn_ec, ↓dn_ei, ↓dn_skip, ↓dn_seq, ↓dn_set, ↓dn_inc, ↓dn_putf, ↓dn_putz, ↓dn_ast, ↓dn_exp, ↓dn_if, ↓dn_ret, ↓dn_retz, ↓dn_retv, ↓dn_brk, ↓dn_cont, ↓dn_cs, ↓dn_sw, ↓dn_pop32, ↓dn_pop64, ↓dn_aop, ↓dn_call, ↓dn_max, ↓dn_min, ↓dn_acp, ↓dn_i2l, ↓dn_args0, ↓dn_args1, og_pad, og_ent, og_rlt, og_rle, og_rgt, og_rge, og_req, og_rne, og_padd, og_psub, og_pmul, List.getD_cons_zero, List.getD_cons_succ, List.set_cons_zero, List.set_cons_succ, List.length_cons, List.length_nil, List.cons_append, List.nil_append, List.replicate, List.append_nil, Nat.reduceAdd, Nat.reduceSub, Nat.reduceEqDiff, if_true, if_false, reduceIte, Int.reduceAdd, Int.reduceSub, Int.reduceMul, Int.reduceNeg, Int.reduceLT, Int.reduceLE, Int.cast_ofNat_Int, true_or, or_true, true_and, and_true, false_and, List.mem_cons, List.not_mem_nil, or_false, false_or, ne_eq]
    rcases hj with ⟨rfl, m, a, c, V, o', hm, hq, hr⟩ | ⟨rfl, hj⟩
    · have hm0 : 0 < m := by
        cases m with
        | zero => exact absurd hr (by unfold runs; exact id)
        | succ m => omega
      refine ⟨fun _ => ⟨fun _ => ?_, fun z => absurd hq.1.1.1 z⟩, fun z => absurd z (by decide)⟩
      have go0 : ∀ h3, frZ h h3 → sJ h3 B n o W0 R → og_nx (k + 1) (fun i e2 h2 => ∃ x2, e2 = [1000, b, x2] ∧ frZ h h2 ∧ ((x2 = 1 ∧ ∃ m a c V o', m + i ≤ k ∧ qI h2 B n o W0 a c V o' ∧ runs B n pu m (false, a, c, V, o') R) ∨ (x2 = 0 ∧ sJ h2 B n o W0 R))) i [1000, b, 0] h3 := fun h3 f3 j3 => og_nx_mk (by omega) ⟨0, rfl, f3, Or.inr ⟨rfl, j3⟩⟩
      refine r_qPartTold (pu := pu) (by rw [fz _ _ (by decide) (by decide) (by decide)]; exact hk) (txM_Z ht fz) hq hr (fun h3 a3 c3 V3 o3 k3 hk3 hq3 hl3 hr3 f3 => ?_) (fun h3 z ez l3 f3 => ?_)
      · have fz3 := frZ_tr fz f3
        refine ⟨fun _ => ?_, fun z => absurd hq3.1.1.1 z⟩
        refine r_qGoesOn (txM_Z ht fz3) hW hq3 hl3 hr3 (fun h4 a4 c4 V4 o4 k4 hk4 hq4 hr4 f4 => ?_) (fun h4 z ez l4 f4 => ?_) (fun h4 a4 c4 V4 o4 hq4 hl4 hb4 e4 f4 => ?_)
        · refine ⟨fun _ => og_nx_mk (by omega) ⟨1, rfl, frZ_tr fz3 f4, Or.inl ⟨rfl, k4, a4, c4, V4, o4, by omega, hq4, hr4⟩⟩, fun z => absurd z (by decide)⟩
        · refine ⟨fun z => absurd rfl z, fun _ => go0 h4 (frZ_tr fz3 f4) (Or.inr ⟨z, ez, l4⟩)⟩
        · refine ⟨fun z => absurd rfl z, fun _ => go0 h4 (frZ_tr fz3 f4) (Or.inl ⟨a4, c4, V4, o4, hq4, hl4, hb4, e4⟩)⟩
      · refine ⟨fun z => absurd z (by rw [l3.1.1]; exact l3.1.2.2), fun _ => go0 h3 (frZ_tr fz f3) (Or.inr ⟨z, ez, l3⟩)⟩
    · refine ⟨fun z => absurd rfl z, fun _ => ?_⟩
      first | exact ⟨⟨_, rfl⟩, fz, hj⟩ | exact ⟨fz, hj⟩
  · rintro e2 h2 ⟨⟨x2, rfl⟩, fz, hj⟩
    rcases hj with ⟨a, c, V, o', hq, hl, hbr, eR⟩ | ⟨z, eR, l2⟩
    · have bn := br_none hbr hq.2.2.2.2.2.2.1 hl
      have hlen := hq.2.2.2.2.2.1
      have ha := hq.1.2.1
      have ho1 := hq.2.2.2.2.2.2.2.1
      refine ⟨fun e3 h3 => e3 = [1000, b, x2] ∧ drI h2 V W0 c V.length h3, ?_, ?_⟩
      · refine og_loop V.length (fun i e3 h3 => e3 = [1000, b, x2] ∧ drI h2 V W0 c i h3) ⟨rfl, drI_0 hq.2.2.1 hq.2.1⟩ ?_
        rintro i e3 h3 hi ⟨rfl, hd⟩
        simp -implicitDefEqProofs only [↓dn_den, ↓dn_loc, ↓dn_k, ↓dn_add, ↓dn_sub, ↓dn_mul, ↓dn_div, ↓dn_rem, ↓dn_bop, ↓dn_ladd, ↓dn_lsub, ↓dn_lmul, ↓dn_ldiv, ↓dn_lrem, ↓dn_land, ↓dn_l2i, ↓dn_neg, ↓dn_get, ↓dn_fix, ↓dn_ald, ↓dn_gld, ↓dn_yld, ↓dn_len, ↓dn_gln, ↓dn_cc, ↓dn_cb, ↓dn_and, ↓dn_or, ↓dn_not, ↓dn_cite, ↓dn_ec, ↓dn_ei, ↓dn_skip, ↓dn_seq, ↓dn_set, ↓dn_inc, ↓dn_putf, ↓dn_putz, ↓dn_ast, ↓dn_exp, ↓dn_if, ↓dn_ret, ↓dn_retz, ↓dn_retv, ↓dn_brk, ↓dn_cont, ↓dn_cs, ↓dn_sw, ↓dn_pop32, ↓dn_pop64, ↓dn_aop, ↓dn_call, ↓dn_max, ↓dn_min, ↓dn_acp, ↓dn_i2l, ↓dn_args0, ↓dn_args1, og_pad, og_ent, og_rlt, og_rle, og_rgt, og_rge, og_req, og_rne, og_padd, og_psub, og_pmul, List.getD_cons_zero, List.getD_cons_succ, List.set_cons_zero, List.set_cons_succ, List.length_cons, List.length_nil, List.cons_append, List.nil_append, List.replicate, List.append_nil, Nat.reduceAdd, Nat.reduceSub, Nat.reduceEqDiff, if_true, if_false, reduceIte, Int.reduceAdd, Int.reduceSub, Int.reduceMul, Int.reduceNeg, Int.reduceLT, Int.reduceLE, Int.cast_ofNat_Int, true_or, or_true, true_and, and_true, false_and, List.mem_cons, List.not_mem_nil, or_false, false_or, ne_eq]
        have h5 : h3 1000 5 = 0 := by rw [hd.2.2 _ _ (by decide) (by decide)]; exact hq.1.1.1
        have h95 : h3 1000 95 = W0.length := by rw [hd.2.2 _ _ (by decide) (by decide)]; exact hq.2.2.2.2.1
        refine ⟨fun _ => ?_, fun z => absurd h5 z⟩
        rw [drI_len hd hi, h95]
        refine ⟨fun z => ?_, fun z => ?_⟩
        · have hiV : i < V.length := by omega
          exact drI_step hd hiV (bn.2 _ (by
            simp only [List.getD_eq_getElem?_getD, List.getElem?_eq_getElem hiV, Option.getD_some]
            exact List.getElem_mem hiV)) (by omega) (fun h4 d4 => og_nx_mk hiV ⟨rfl, d4⟩)
        · have e : i = V.length := by omega
          subst e
          first | exact ⟨rfl, hd⟩ | exact hd
      · rintro e3 h3 ⟨rfl, d1, d2, d3⟩
        simp -implicitDefEqProofs only [↓dn_den, ↓dn_loc, ↓dn_k, ↓dn_add, ↓dn_sub, ↓dn_mul, ↓dn_div, ↓dn_rem, ↓dn_bop, ↓dn_ladd, ↓dn_lsub, ↓dn_lmul, ↓dn_ldiv, ↓dn_lrem, ↓dn_land, ↓dn_l2i, ↓dn_neg, ↓dn_get, ↓dn_fix, ↓dn_ald, ↓dn_gld, ↓dn_yld, ↓dn_len, ↓dn_gln, ↓dn_cc, ↓dn_cb, ↓dn_and, ↓dn_or, ↓dn_not, ↓dn_cite, ↓dn_ec, ↓dn_ei, ↓dn_skip, ↓dn_seq, ↓dn_set, ↓dn_inc, ↓dn_putf, ↓dn_putz, ↓dn_ast, ↓dn_exp, ↓dn_if, ↓dn_ret, ↓dn_retz, ↓dn_retv, ↓dn_brk, ↓dn_cont, ↓dn_cs, ↓dn_sw, ↓dn_pop32, ↓dn_pop64, ↓dn_aop, ↓dn_call, ↓dn_max, ↓dn_min, ↓dn_acp, ↓dn_i2l, ↓dn_args0, ↓dn_args1, og_pad, og_ent, og_rlt, og_rle, og_rgt, og_rge, og_req, og_rne, og_padd, og_psub, og_pmul, List.getD_cons_zero, List.getD_cons_succ, List.set_cons_zero, List.set_cons_succ, List.length_cons, List.length_nil, List.cons_append, List.nil_append, List.replicate, List.append_nil, Nat.reduceAdd, Nat.reduceSub, Nat.reduceEqDiff, if_true, if_false, reduceIte, Int.reduceAdd, Int.reduceSub, Int.reduceMul, Int.reduceNeg, Int.reduceLT, Int.reduceLE, Int.cast_ofNat_Int, true_or, or_true, true_and, and_true, false_and, List.mem_cons, List.not_mem_nil, or_false, false_or, ne_eq]
        rw [List.drop_length, List.nil_append] at d1
        rw [List.take_length] at d2
        have ud : ∀ i k, ¬ (i = 1000 ∧ k = 95) → og_up h3 1000 95 b i k = h3 i k := fun i k hi => by unfold og_up; exact if_neg hi
        have lc : ((c ++ dcl V).length : Int) = c.length + V.length := by rw [List.length_append]; unfold dcl; rw [List.length_map]; omega
        refine hT _ a (c ++ dcl V) eR ⟨refS_fr hq.1 (fun k hk => ?_), cdM_fr d2 (fun i k hi => ud i k (by omega)), stM_fr d1 (fun i k hi => ud i k (by omega)), ?_, by omega, q6, q7⟩ og_up_eq (frZ_tr fz (fun i k p q r => ?_))
        · rw [ud _ _ (by omega), d3 _ _ (by decide) (by omega)]
        · rw [ud _ _ (by decide), d3 _ _ (by decide) (by decide), hq.2.2.2.1]; omega
        · rw [ud _ _ (by omega), d3 i k p (by omega)]
    · have h5 : h2 1000 5 ≠ 0 := by rw [l2.1.1]; exact l2.1.2.2
      refine ⟨fun e3 h3 => e3 = [1000, b, x2] ∧ h3 = h2, ?_, ?_⟩
      · refine og_loop 0 (fun i e3 h3 => e3 = [1000, b, x2] ∧ h3 = h2) ⟨rfl, rfl⟩ ?_
        rintro i e3 h3 hi ⟨rfl, rfl⟩
        simp -implicitDefEqProofs only [↓dn_den, ↓dn_loc, ↓dn_k, ↓dn_add, ↓dn_sub, ↓dn_mul, ↓dn_div, ↓dn_rem, ↓dn_bop, ↓dn_ladd, ↓dn_lsub, ↓dn_lmul, ↓dn_ldiv, ↓dn_lrem, ↓dn_land, ↓dn_l2i, ↓dn_neg, ↓dn_get, ↓dn_fix, ↓dn_ald, ↓dn_gld, ↓dn_yld, ↓dn_len, ↓dn_gln, ↓dn_cc, ↓dn_cb, ↓dn_and, ↓dn_or, ↓dn_not, ↓dn_cite, ↓dn_ec, ↓dn_ei, ↓dn_skip, ↓dn_seq, ↓dn_set, ↓dn_inc, ↓dn_putf, ↓dn_putz, ↓dn_ast, ↓dn_exp, ↓dn_if, ↓dn_ret, ↓dn_retz, ↓dn_retv, ↓dn_brk, ↓dn_cont, ↓dn_cs, ↓dn_sw, ↓dn_pop32, ↓dn_pop64, ↓dn_aop, ↓dn_call, ↓dn_max, ↓dn_min, ↓dn_acp, ↓dn_i2l, ↓dn_args0, ↓dn_args1, og_pad, og_ent, og_rlt, og_rle, og_rgt, og_rge, og_req, og_rne, og_padd, og_psub, og_pmul, List.getD_cons_zero, List.getD_cons_succ, List.set_cons_zero, List.set_cons_succ, List.length_cons, List.length_nil, List.cons_append, List.nil_append, List.replicate, List.append_nil, Nat.reduceAdd, Nat.reduceSub, Nat.reduceEqDiff, if_true, if_false, reduceIte, Int.reduceAdd, Int.reduceSub, Int.reduceMul, Int.reduceNeg, Int.reduceLT, Int.reduceLE, Int.cast_ofNat_Int, true_or, or_true, true_and, and_true, false_and, List.mem_cons, List.not_mem_nil, or_false, false_or, ne_eq]
        refine ⟨fun z => absurd z h5, fun _ => ?_⟩
        first | exact ⟨rfl, rfl⟩ | exact True.intro
      · rintro e3 h3 ⟨rfl, rfl⟩
        simp -implicitDefEqProofs only [↓dn_den, ↓dn_loc, ↓dn_k, ↓dn_add, ↓dn_sub, ↓dn_mul, ↓dn_div, ↓dn_rem, ↓dn_bop, ↓dn_ladd, ↓dn_lsub, ↓dn_lmul, ↓dn_ldiv, ↓dn_lrem, ↓dn_land, ↓dn_l2i, ↓dn_neg, ↓dn_get, ↓dn_fix, ↓dn_ald, ↓dn_gld, ↓dn_yld, ↓dn_len, ↓dn_gln, ↓dn_cc, ↓dn_cb, ↓dn_and, ↓dn_or, ↓dn_not, ↓dn_cite, ↓dn_ec, ↓dn_ei, ↓dn_skip, ↓dn_seq, ↓dn_set, ↓dn_inc, ↓dn_putf, ↓dn_putz, ↓dn_ast, ↓dn_exp, ↓dn_if, ↓dn_ret, ↓dn_retz, ↓dn_retv, ↓dn_brk, ↓dn_cont, ↓dn_cs, ↓dn_sw, ↓dn_pop32, ↓dn_pop64, ↓dn_aop, ↓dn_call, ↓dn_max, ↓dn_min, ↓dn_acp, ↓dn_i2l, ↓dn_args0, ↓dn_args1, og_pad, og_ent, og_rlt, og_rle, og_rgt, og_rge, og_req, og_rne, og_padd, og_psub, og_pmul, List.getD_cons_zero, List.getD_cons_succ, List.set_cons_zero, List.set_cons_succ, List.length_cons, List.length_nil, List.cons_append, List.nil_append, List.replicate, List.append_nil, Nat.reduceAdd, Nat.reduceSub, Nat.reduceEqDiff, if_true, if_false, reduceIte, Int.reduceAdd, Int.reduceSub, Int.reduceMul, Int.reduceNeg, Int.reduceLT, Int.reduceLE, Int.cast_ofNat_Int, true_or, or_true, true_and, and_true, false_and, List.mem_cons, List.not_mem_nil, or_false, false_or, ne_eq]
        have ud : ∀ i k, ¬ (i = 1000 ∧ k = 95) → og_up h3 1000 95 b i k = h3 i k := fun i k hi => by unfold og_up; exact if_neg hi
        refine hF _ z eR ⟨⟨by rw [ud _ _ (by decide)]; exact l2.1.1, by rw [ud _ _ (by decide)]; exact l2.1.2.1, l2.1.2.2⟩, by rw [ud _ _ (by decide)]; exact l2.2.1, by rw [ud _ _ (by decide)]; exact l2.2.2⟩ (frZ_tr fz (fun i k p q r => ud i k (by omega)))
end
end
