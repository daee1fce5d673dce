section
section
variable {h h0 h' : Hp} {B : Int → Int} {n a o o0 pu : Int} {c V W W0 : List Int} {K : Int → Hp → Prop} {R R' : PS} {s s' : MS} {k : Nat}
def pJ (h : Hp) (B : Int → Int) (n pu o0 : Int) (W0 : List Int) (R : PS) (m : Nat) (d : Prop) (h2 : Hp) : Prop := frZ h h2 ∧ ((∃ a c V o, qI h2 B n o0 W0 a c V o ∧ runs B n pu m (false, a, c, V, o) R ∧ (d → nop B n pu a)) ∨ (∃ z, R = .inr z ∧ fltQ h2 z))
theorem r_takesP {w : Int} (hw : idW w) (ht : txM h B n) (hr : refS h B n a) (hK : ∀ v h', ((v = 1 ∧ wrd B n a = wnM w ∧ refS h' B n (tE B n a)) ∨ (v = 0 ∧ ¬ wrd B n a = wnM w ∧ refS h' B n a)) → frX h h' → K v h') : m_Model_takes [1000, w] h K := r_takes hw ht hr (fun z h1 r1 f1 => hK 1 h1 (Or.inl ⟨rfl, z, r1⟩) f1) (fun z h1 r1 _ f1 => hK 0 h1 (Or.inr ⟨rfl, z, r1⟩) f1)
theorem tN_rg (hk : tK B n a = 2) : 0 ≤ tN B n a ∧ tN B n a ≤ 9999 := by
  have e := tE_2 hk
  have sp := rn_sp (fun k => isD (B k)) n (tS B n a)
  rw [show rn (fun k => isD (B k)) n (tS B n a) = tE B n a from e.2.2.symm] at sp
  unfold tN tL
  exact dV_rg _ (by omega) (fun j hj => (sp.2.1 (tS B n a + j) (by omega) (by omega)).2)
theorem eP_le : ∀ {V c : List Int} {o : Int}, (eP V c o).2.2 ≤ o
  | [], c, o => Int.le_refl _
  | v :: V, c, o => by
    by_cases q : 60 ≤ v
    · rw [eP_hi q]
      have := eP_le (V := V) (c := c ++ [dc v]) (o := o - 1)
      omega
    · rw [eP_lo q]
      exact Int.le_refl _
theorem r_pairC {X Y : Hp → Prop} (ht : txM h B n) (hr : refS h B n a) (hX : (wrd B n a = 23 ∨ wrd B n a = 24) → ∀ h', refS h' B n a → h' 1000 2 = tS B n a → (∀ i k, ¬ (i = 1000 ∧ k = 2) → h' i k = h i k) → X h') (hY : ¬ (wrd B n a = 23 ∨ wrd B n a = 24) → ∀ h', refS h' B n a → h' 1000 2 = tS B n a → (∀ i k, ¬ (i = 1000 ∧ k = 2) → h' i k = h i k) → Y h') : m_Model_isHere [1000, 1058] h (fun v h' => (¬ v = 0 → X h') ∧ (v = 0 → m_Model_isHere [1000, 1059] h' (fun u h2 => (¬ u = 0 → X h2) ∧ (u = 0 → Y h2)))) := by
  have w58 : wnM 1058 = 23 := by decide
  have w59 : wnM 1059 = 24 := by decide
  refine r_isHC (by unfold idW; omega) ht hr (fun w h5 r5 v5 f5 => hX (Or.inl (w.trans w58)) h5 r5 v5 f5) (fun w h5 r5 v5 f5 => ?_)
  refine r_isHC (by unfold idW; omega) (txM_Z ht (fr2_Z f5)) r5 (fun w' h6 r6 v6 f6 => hX (Or.inr (w'.trans w59)) h6 r6 v6 (fr2_tr f5 f6)) (fun w' h6 r6 v6 f6 => hY ?_ h6 r6 v6 (fr2_tr f5 f6))
  rw [w58] at w
  rw [w59] at w'
  exact fun z => z.elim w w'
theorem r_qPartTold (hk : h 1000 48 = kdM pu) (ht : txM h B n) (hq : qI h B n o0 W0 a c V o) (hr : runs B n pu k (false, a, c, V, o) R)
    (hT : ∀ h' a' c' V' o' k', k' < k → qI h' B n o0 W0 a' c' V' o' → lo60 V' → runs B n pu k' (true, a', c', V', o') R → frZ h h' → K 0 h')
    (hF : ∀ h' z, R = .inr z → fltQ h' z → frZ h h' → K 0 h') : m_Model_qPartTold [1000] h K := by
  have hn := ht.2.2.1
  unfold m_Model_qPartTold
  simp -implicitDefEqProofs only [↓dn_den, ↓dn_loc, ↓dn_k, ↓dn_add, ↓dn_sub, ↓dn_mul, ↓dn_div, ↓dn_rem, ↓dn_bop, ↓dn_ladd, ↓dn_lsub, ↓dn_lmul, ↓dn_ldiv, ↓dn_lrem, ↓dn_land, ↓dn_l2i, ↓dn_neg, ↓dn_get, ↓dn_fix, ↓dn_ald, ↓dn_gld, ↓dn_yld, ↓dn_len, ↓dn_gln, ↓dn_cc, ↓dn_cb, ↓dn_and, ↓dn_or, ↓dn_not, ↓dn_cite, ↓dn_ec, ↓dn_ei, ↓dn_skip, ↓dn_seq, ↓dn_set, ↓dn_inc, ↓dn_putf, ↓dn_putz, ↓dn_ast, ↓dn_exp, ↓dn_if, ↓dn_ret, ↓dn_retz, ↓dn_retv, ↓dn_brk, ↓dn_cont, ↓dn_cs, ↓dn_sw, ↓dn_pop32, ↓dn_pop64, ↓dn_aop, ↓dn_call, ↓dn_max, ↓dn_min, ↓dn_acp, ↓dn_i2l, ↓dn_args0, ↓dn_args1, og_pad, og_ent, og_rlt, og_rle, og_rgt, og_rge, og_req, og_rne, og_padd, og_psub, og_pmul, List.getD_cons_zero, List.getD_cons_succ, List.set_cons_zero, List.set_cons_succ, List.length_cons, List.length_nil, List.cons_append, List.nil_append, List.replicate, List.append_nil, Nat.reduceAdd, Nat.reduceSub, Nat.reduceEqDiff, if_true, if_false, reduceIte, Int.reduceAdd, Int.reduceSub, Int.reduceMul, Int.reduceNeg, Int.reduceLT, Int.reduceLE, Int.cast_ofNat_Int, true_or, or_true, true_and, and_true, false_and, List.mem_cons, List.not_mem_nil, or_false, false_or, ne_eq]
  refine ⟨fun e2 h2 => ∃ x1 x2 x3 x4 x5, e2 = [1000, x1, x2, x3, x4, x5] ∧ ∃ m, m ≤ k ∧ pJ h B n pu o0 W0 R m True h2, ?_, ?_⟩
  · refine og_loop (k + 1) (fun i e2 h2 => ∃ x1 x2 x3 x4 x5, e2 = [1000, x1, x2, x3, x4, x5] ∧ ∃ m, (x1 = 1 ∧ m + i = k ∨ x1 = 0 ∧ m ≤ k) ∧ pJ h B n pu o0 W0 R m (x1 = 0) h2) ⟨1, _, _, _, _, rfl, k, Or.inl ⟨rfl, rfl⟩, frZ_rf, Or.inl ⟨a, c, V, o, hq, hr, fun z => absurd z (by decide)⟩⟩ ?_
    rintro i e2 h2 hi ⟨x1, x2, x3, x4, x5, rfl, m, hm, fz, hj⟩
    simp -implicitDefEqProofs only [↓dn_den, ↓dn_loc, ↓dn_k, ↓dn_add, ↓dn_sub, ↓dn_mul, ↓dn_div, ↓dn_rem, ↓dn_bop, ↓dn_ladd, ↓dn_lsub, ↓dn_lmul, ↓dn_ldiv, ↓dn_lrem, ↓dn_land, ↓dn_l2i, ↓dn_neg, ↓dn_get, ↓dn_fix, ↓dn_ald, ↓dn_gld, ↓dn_yld, ↓dn_len, ↓dn_gln, ↓dn_cc, ↓dn_cb, ↓dn_and, ↓dn_or, ↓dn_not, ↓dn_cite, ↓dn_ec, ↓dn_ei, ↓dn_skip, ↓dn_seq, ↓dn_set, ↓dn_inc, ↓dn_putf, ↓dn_putz, ↓dn_ast, ↓dn_exp, ↓dn_if, ↓dn_ret, ↓dn_retz, ↓dn_retv, ↓dn_brk, ↓dn_cont, ↓dn_cs, ↓dn_sw, ↓dn_pop32, ↓dn_pop64, ↓dn_aop, ↓dn_call, ↓dn_max, ↓dn_min, ↓dn_acp, ↓dn_i2l, ↓dn_args0, ↓dn_args1, og_pad, og_ent, og_rlt, og_rle, og_rgt, og_rge, og_req, og_rne, og_padd, og_psub, og_pmul, List.getD_cons_zero, List.getD_cons_succ, List.set_cons_zero, List.set_cons_succ, List.length_cons, List.length_nil, List.cons_append, List.nil_append, List.replicate, List.append_nil, Nat.reduceAdd, Nat.reduceSub, Nat.reduceEqDiff, if_true, if_false, reduceIte, Int.reduceAdd, Int.reduceSub, Int.reduceMul, Int.reduceNeg, Int.reduceLT, Int.reduceLE, Int.cast_ofNat_Int, true_or, or_true, true_and, and_true, false_and, List.mem_cons, List.not_mem_nil, or_false, false_or, ne_eq, og_i32]
    have out : ¬ (x1 = 1 ∧ h2 1000 5 = 0) → ∃ x1' x2' x3' x4' x5', [1000, x1, x2, x3, x4, x5] = [1000, x1', x2', x3', x4', x5'] ∧ ∃ m, m ≤ k ∧ pJ h B n pu o0 W0 R m True h2 := fun hno => ⟨x1, x2, x3, x4, x5, rfl, m, by omega, fz, hj.elim (fun ⟨a, c, V, o, g1, g2, g3⟩ => Or.inl ⟨a, c, V, o, g1, g2, fun _ => g3 (by
        rcases hm with ⟨e, _⟩ | ⟨e, _⟩
        · exact absurd ⟨e, g1.1.1.1⟩ hno
        · exact e)⟩) Or.inr⟩
    refine ⟨fun y1 => ⟨fun y5 => ?_, fun y5 => ?_⟩, fun y1 => ?_⟩
    · obtain ⟨e1, hm⟩ : x1 = 1 ∧ m + i = k := hm.elim id (fun z => absurd z.1 y1)
      subst e1
      clear out y1
      obtain ⟨a, c, V, o, hq, hr, -⟩ : ∃ a c V o, qI h2 B n o0 W0 a c V o ∧ runs B n pu m (false, a, c, V, o) R ∧ ((1 : Int) = 0 → nop B n pu a) := hj.elim id (fun ⟨z, _, g⟩ => absurd y5 (by have := g.1.2.2; rw [← g.1.1] at this; exact this))
      have ht2 := txM_Z ht fz
      have hk2 : h2 1000 48 = kdM pu := by rw [fz _ _ (by decide) (by decide) (by decide)]; exact hk
      have ha := hq.1.2.1
      have hlen := hq.2.2.2.2.2.1
      have ho := hq.2.2.2.2.2.2.2.2.2
      have ho1 := hq.2.2.2.2.2.2.2.1
      have ho2 := hq.2.2.2.2.2.2.2.2.1
      have cg := cn_rg V
      have hm0 : 0 < m := by
        cases m with
        | zero => exact absurd hr (by unfold runs; exact id)
        | succ m => omega
      have go : ∀ y2 y3 y4 y5 h3, frZ h h3 → ((∃ a c V o, qI h3 B n o0 W0 a c V o ∧ runs B n pu (m - 1) (false, a, c, V, o) R) ∨ (∃ z, R = .inr z ∧ fltQ h3 z)) → og_nx (k + 1) (fun i e2 h2 => ∃ x1 x2 x3 x4 x5, e2 = [1000, x1, x2, x3, x4, x5] ∧ ∃ m, (x1 = 1 ∧ m + i = k ∨ x1 = 0 ∧ m ≤ k) ∧ pJ h B n pu o0 W0 R m (x1 = 0) h2) i [1000, 1, y2, y3, y4, y5] h3 := fun y2 y3 y4 y5 h3 f3 hj3 => og_nx_mk (by omega) ⟨1, y2, y3, y4, y5, rfl, m - 1, Or.inl ⟨rfl, by omega⟩, f3, hj3.elim (fun ⟨a, c, V, o, g1, g2⟩ => Or.inl ⟨a, c, V, o, g1, g2, fun z => absurd z (by decide)⟩) Or.inr⟩
      have step : ∀ s', mst B n pu (false, a, c, V, o) = .inl s' → runs B n pu (m - 1) s' R := fun s' e => by
        obtain ⟨k', e1, e2⟩ := runs_go hr e
        rw [e1]; exact e2
      refine r_look ht2 hq.1 (fun h3 hr3 v3 f3 => ?_)
      have ht3 := txM_Z ht2 (fr2_Z f3)
      refine r_qWordOf (pu := pu) (by rw [f3 _ _ (by decide)]; exact hk2) (by decide) ht3 hr3 (fun h4 hr4 v4 f4 => ?_)
      have f4 := fr2_tr f3 f4
      have ht4 := txM_Z ht2 (fr2_Z f4)
      have hq4 := qI_2 hq hr4 f4
      have fz4 := frZ_tr fz (fr2_Z f4)
      have sp := tS_sp B n a
      have le : tS B n a ≤ n := rn_le ha.2
      have te := tE_le (B := B) ha.2
      have s40 := sgn_iff (B := B) (n := n) (a := a) (x := 40) ha.1 (by decide)
      have w8 := op_iff (pu := pu) (w := wrd B n a)
      refine ⟨fun x40 => ?_, fun x40 => ?_⟩
      · have e40 : sgn B n a = 40 := s40.mpr x40
        have sg := sgn_go (B := B) (n := n) (a := a) (by omega)
        rw [v4]
        refine r_qOpens (o := o) hq4.2.2.1 (by rw [List.length_append]; omega) hr4.1.1 hq4.2.2.2.1 (by omega) (fun o6 h5 l5 f5 => ?_) (fun o6 h5 s5 o5 f5 => ?_)
        · have e2 : h5 1000 2 = tS B n a := by rw [f5 _ _ (by decide)]; exact v4
          rw [e2]
          refine ⟨by omega, go _ _ _ _ _ (frZ_tr fz4 (frZ_tr (fr5_Z f5) (fun i k _ _ r => by unfold og_up; exact if_neg (by omega)))) (Or.inr ⟨(4, tS B n a), ?_, ?_⟩)⟩
          · exact (runs_end hr (by rw [mst_P]; unfold mP; rw [if_pos e40, if_pos o6])).1
          · exact qI_flt hq4 ha.2 hn.2.1 ⟨by rw [og_up_k (by decide)]; exact l5.1, by rw [og_up_k (by decide)]; exact l5.2.1, l5.2.2⟩ (by rw [og_up_k (by decide)]; exact f5 _ _ (by decide))
        · have e2 : h5 1000 2 = tS B n a := by rw [f5 _ _ (by decide) (by decide)]; exact v4
          rw [e2]
          have st := step _ (by rw [mst_P]; unfold mP; rw [if_pos e40, if_neg o6])
          refine ⟨by omega, go _ _ _ _ _ (frZ_tr fz4 (fun i k p q r => by unfold og_up; rw [if_neg (by omega)]; exact f5 i k q (by omega))) (Or.inl ⟨_, c, 20 :: V, o + 1, qI_open hq4 o6 (by unfold okv; omega) rfl (a' := tE B n a) (refS_sgn (by decide) e40 hr4 ⟨?_, ?_⟩ og_up_eq ?_) (by omega) (stM_fr s5 (fun i k hi => by unfold og_up; exact if_neg (by omega))) ?_ (fun i k hi => ?_), st⟩)⟩
          · rw [og_up_k (by decide), f5 _ _ (by decide) (by decide)]; exact hr4.1.1
          · rw [og_up_k (by decide), f5 _ _ (by decide) (by decide)]; exact hr4.1.2
          · rw [og_up_k (by decide), f5 _ _ (by decide) (by decide)]
          · rw [og_up_k (by decide)]; exact o5
          · unfold og_up; rw [if_neg (by omega)]; exact f5 i k (by omega) (by omega)
      · have n40 : ¬ sgn B n a = 40 := fun z => x40 (s40.mp z)
        refine r_pairC ht4 hr4 (fun w h6 r6 v6 f6 => ?_) (fun w h6 r6 v6 f6 => ?_)
        · have f6 := fr2_tr f4 f6
          have hq6 := qI_2 hq r6 f6
          have ht6 := txM_Z ht2 (fr2_Z f6)
          have fz6 := frZ_tr fz (fr2_Z f6)
          have wg := wrd_go (B := B) (n := n) (a := a) (by omega)
          have w58 : wnM 1058 = 23 := by decide
          have w59 : wnM 1059 = 24 := by decide
          have te2 := tE_le (B := B) te
          refine r_takesP (w := 1058) (by unfold idW; omega) ht6 r6 (fun x4 h7 p7 f7 => ?_)
          rw [w58] at p7
          have x4w : (x4 = 1 ∧ wrd B n a = 23) ∨ (x4 = 0 ∧ wrd B n a = 24) := p7.elim (fun z => Or.inl ⟨z.1, z.2.1⟩) (fun z => Or.inr ⟨z.1, w.elim (fun y => absurd y z.2.1) id⟩)
          have ht7 := txM_X ht6 f7
          refine ⟨fun e3 h3 => (∃ y2 y3 y5, e3 = [1000, 1, y2, y3, x4, y5]) ∧ refS h3 B n (tE B n a) ∧ frX h6 h3, ?_, ?_⟩
          · simp -implicitDefEqProofs only [↓dn_den, ↓dn_loc, ↓dn_k, ↓dn_add, ↓dn_sub, ↓dn_mul, ↓dn_div, ↓dn_rem, ↓dn_bop, ↓dn_ladd, ↓dn_lsub, ↓dn_lmul, ↓dn_ldiv, ↓dn_lrem, ↓dn_land, ↓dn_l2i, ↓dn_neg, ↓dn_get, ↓dn_fix, ↓dn_ald, ↓dn_gld, ↓dn_yld, ↓dn_len, ↓dn_gln, ↓dn_cc, ↓dn_cb, ↓dn_and, ↓dn_or, ↓dn_not, ↓dn_cite, ↓dn_ec, ↓dn_ei, ↓dn_skip, ↓dn_seq, ↓dn_set, ↓dn_inc, ↓dn_putf, ↓dn_putz, ↓dn_ast, ↓dn_exp, ↓dn_if, ↓dn_ret, ↓dn_retz, ↓dn_retv, ↓dn_brk, ↓dn_cont, ↓dn_cs, ↓dn_sw, ↓dn_pop32, ↓dn_pop64, ↓dn_aop, ↓dn_call, ↓dn_max, ↓dn_min, ↓dn_acp, ↓dn_i2l, ↓dn_args0, ↓dn_args1, og_pad, og_ent, og_rlt, og_rle, og_rgt, og_rge, og_req, og_rne, og_padd, og_psub, og_pmul, List.getD_cons_zero, List.getD_cons_succ, List.set_cons_zero, List.set_cons_succ, List.length_cons, List.length_nil, List.cons_append, List.nil_append, List.replicate, List.append_nil, Nat.reduceAdd, Nat.reduceSub, Nat.reduceEqDiff, if_true, if_false, reduceIte, Int.reduceAdd, Int.reduceSub, Int.reduceMul, Int.reduceNeg, Int.reduceLT, Int.reduceLE, Int.cast_ofNat_Int, true_or, or_true, true_and, and_true, false_and, List.mem_cons, List.not_mem_nil, or_false, false_or, ne_eq]
            refine ⟨fun z => ⟨⟨_, _, _, rfl⟩, ?_, f7⟩, fun z => ?_⟩
            · exact p7.elim (fun y => y.2.2) (fun y => absurd y.1 z)
            · have p8 := p7.elim (fun y => absurd z (by rw [y.1]; decide)) id
              exact r_asks (w := 1059) (by unfold idW; omega) ht7 p8.2.2 (fun _ h8 r8 f8 => ⟨⟨_, _, _, rfl⟩, r8, frX_tr f7 f8⟩) (fun y => absurd (by rw [w59]; exact w.elim (fun y => absurd y p8.2.1) id) y)
          · rintro e3 h8 ⟨⟨y2, y3, y5, rfl⟩, r8, f8⟩
            simp -implicitDefEqProofs only [↓dn_den, ↓dn_loc, ↓dn_k, ↓dn_add, ↓dn_sub, ↓dn_mul, ↓dn_div, ↓dn_rem, ↓dn_bop, ↓dn_ladd, ↓dn_lsub, ↓dn_lmul, ↓dn_ldiv, ↓dn_lrem, ↓dn_land, ↓dn_l2i, ↓dn_neg, ↓dn_get, ↓dn_fix, ↓dn_ald, ↓dn_gld, ↓dn_yld, ↓dn_len, ↓dn_gln, ↓dn_cc, ↓dn_cb, ↓dn_and, ↓dn_or, ↓dn_not, ↓dn_cite, ↓dn_ec, ↓dn_ei, ↓dn_skip, ↓dn_seq, ↓dn_set, ↓dn_inc, ↓dn_putf, ↓dn_putz, ↓dn_ast, ↓dn_exp, ↓dn_if, ↓dn_ret, ↓dn_retz, ↓dn_retv, ↓dn_brk, ↓dn_cont, ↓dn_cs, ↓dn_sw, ↓dn_pop32, ↓dn_pop64, ↓dn_aop, ↓dn_call, ↓dn_max, ↓dn_min, ↓dn_acp, ↓dn_i2l, ↓dn_args0, ↓dn_args1, og_pad, og_ent, og_rlt, og_rle, og_rgt, og_rge, og_req, og_rne, og_padd, og_psub, og_pmul, List.getD_cons_zero, List.getD_cons_succ, List.set_cons_zero, List.set_cons_succ, List.length_cons, List.length_nil, List.cons_append, List.nil_append, List.replicate, List.append_nil, Nat.reduceAdd, Nat.reduceSub, Nat.reduceEqDiff, if_true, if_false, reduceIte, Int.reduceAdd, Int.reduceSub, Int.reduceMul, Int.reduceNeg, Int.reduceLT, Int.reduceLE, Int.cast_ofNat_Int, true_or, or_true, true_and, and_true, false_and, List.mem_cons, List.not_mem_nil, or_false, false_or, ne_eq]
            have ht8 := txM_X ht6 f8
            have s40' := sgn_iff (B := B) (n := n) (a := tE B n a) (x := 40) (by omega) (by decide)
            have sp2 := tS_sp B n (tE B n a)
            have le2 : tS B n (tE B n a) ≤ n := rn_le te
            refine r_look ht8 r8 (fun h9 r9 v9 f9 => ?_)
            have f69 : ∀ i k, (i = 1070 ∨ i = 1071 ∨ (i = 1000 ∧ (k = 91 ∨ k = 93 ∨ k = 94 ∨ k = 95))) → h9 i k = h6 i k := fun i k hi => by rw [f9 i k (by omega), f8 i k (by omega)]
            have z69 : frZ h6 h9 := frZ_tr (frX_Z f8) (fr2_Z f9)
            have ht9 := txM_Z ht6 z69
            refine ⟨fun z => ?_, fun z => ?_⟩
            · have e40 := s40'.mpr z
              have sg2 := sgn_go (B := B) (n := n) (a := tE B n a) (by omega)
              rw [v9]
              refine ⟨fun e4 h4 => (∃ y2 y3 y4 y5, e4 = [1000, 1, y2, y3, y4, y5]) ∧ frZ h h4 ∧ ((refS h4 B n (tE B n a) ∧ ¬ o = 6 ∧ stM h4 ((wrd B n a - 2) :: (V ++ W0)) ∧ h4 1000 94 = o + 1 ∧ (∀ i k, (i = 1070 ∨ (i = 1000 ∧ (k = 91 ∨ k = 95))) → h4 i k = h6 i k)) ∨ (o = 6 ∧ fltQ h4 (4, tS B n (tE B n a)))), ?_, ?_⟩
              · simp -implicitDefEqProofs only [↓dn_den, ↓dn_loc, ↓dn_k, ↓dn_add, ↓dn_sub, ↓dn_mul, ↓dn_div, ↓dn_rem, ↓dn_bop, ↓dn_ladd, ↓dn_lsub, ↓dn_lmul, ↓dn_ldiv, ↓dn_lrem, ↓dn_land, ↓dn_l2i, ↓dn_neg, ↓dn_get, ↓dn_fix, ↓dn_ald, ↓dn_gld, ↓dn_yld, ↓dn_len, ↓dn_gln, ↓dn_cc, ↓dn_cb, ↓dn_and, ↓dn_or, ↓dn_not, ↓dn_cite, ↓dn_ec, ↓dn_ei, ↓dn_skip, ↓dn_seq, ↓dn_set, ↓dn_inc, ↓dn_putf, ↓dn_putz, ↓dn_ast, ↓dn_exp, ↓dn_if, ↓dn_ret, ↓dn_retz, ↓dn_retv, ↓dn_brk, ↓dn_cont, ↓dn_cs, ↓dn_sw, ↓dn_pop32, ↓dn_pop64, ↓dn_aop, ↓dn_call, ↓dn_max, ↓dn_min, ↓dn_acp, ↓dn_i2l, ↓dn_args0, ↓dn_args1, og_pad, og_ent, og_rlt, og_rle, og_rgt, og_rge, og_req, og_rne, og_padd, og_psub, og_pmul, List.getD_cons_zero, List.getD_cons_succ, List.set_cons_zero, List.set_cons_succ, List.length_cons, List.length_nil, List.cons_append, List.nil_append, List.replicate, List.append_nil, Nat.reduceAdd, Nat.reduceSub, Nat.reduceEqDiff, if_true, if_false, reduceIte, Int.reduceAdd, Int.reduceSub, Int.reduceMul, Int.reduceNeg, Int.reduceLT, Int.reduceLE, Int.cast_ofNat_Int, true_or, or_true, true_and, and_true, false_and, List.mem_cons, List.not_mem_nil, or_false, false_or, ne_eq]
                have op : ∀ v, v = wrd B n a - 2 → m_Model_qOpens [1000, v, tS B n (tE B n a)] h9 (fun _ h4 => frZ h h4 ∧ ((refS h4 B n (tE B n a) ∧ ¬ o = 6 ∧ stM h4 ((wrd B n a - 2) :: (V ++ W0)) ∧ h4 1000 94 = o + 1 ∧ (∀ i k, (i = 1070 ∨ (i = 1000 ∧ (k = 91 ∨ k = 95))) → h4 i k = h6 i k)) ∨ (o = 6 ∧ fltQ h4 (4, tS B n (tE B n a))))) := by
                  intro v hv
                  subst hv
                  refine r_qOpens (o := o) (W := V ++ W0) (stM_fr hq6.2.2.1 (fun i k hi => f69 i k (by omega))) (by rw [List.length_append]; omega) r9.1.1 (by rw [f69 _ _ (by decide)]; exact hq6.2.2.2.1) (by omega) (fun o6 h5 l5 f5 => ⟨frZ_tr fz6 (frZ_tr z69 (fr5_Z f5)), Or.inr ⟨o6, qI_flt hq6 ha.2 hn.2.1 l5 ?_⟩⟩) (fun o6 h5 s5 o5 f5 => ⟨frZ_tr fz6 (frZ_tr z69 (fun i k p q r => f5 i k q (by omega))), Or.inl ⟨refS_fr r9 (fun k hk => f5 _ _ (by decide) (by omega)), o6, s5, o5, fun i k hi => ?_⟩⟩)
                  · rw [f5 _ _ (by decide)]; exact f69 _ _ (by decide)
                  · rw [f5 i k (by omega) (by omega)]; exact f69 i k (by omega)
                have op1 : ∀ v y2 y3 y4 y5, v = wrd B n a - 2 → m_Model_qOpens [1000, v, tS B n (tE B n a)] h9 (fun _ h4 => (∃ z2 z3 z4 z5, ([1000, 1, y2, y3, y4, y5] : List Int) = [1000, 1, z2, z3, z4, z5]) ∧ frZ h h4 ∧ ((refS h4 B n (tE B n a) ∧ ¬ o = 6 ∧ stM h4 ((wrd B n a - 2) :: (V ++ W0)) ∧ h4 1000 94 = o + 1 ∧ (∀ i k, (i = 1070 ∨ (i = 1000 ∧ (k = 91 ∨ k = 95))) → h4 i k = h6 i k)) ∨ (o = 6 ∧ fltQ h4 (4, tS B n (tE B n a))))) := by
                  intro v y2 y3 y4 y5 hv
                  subst hv
                  refine r_qOpens (o := o) (W := V ++ W0) (stM_fr hq6.2.2.1 (fun i k hi => f69 i k (by omega))) (by rw [List.length_append]; omega) r9.1.1 (by rw [f69 _ _ (by decide)]; exact hq6.2.2.2.1) (by omega) (fun o6 h5 l5 f5 => ⟨⟨_, _, _, _, rfl⟩, frZ_tr fz6 (frZ_tr z69 (fr5_Z f5)), Or.inr ⟨o6, qI_flt hq6 ha.2 hn.2.1 l5 ?_⟩⟩) (fun o6 h5 s5 o5 f5 => ⟨⟨_, _, _, _, rfl⟩, frZ_tr fz6 (frZ_tr z69 (fun i k p q r => f5 i k q (by omega))), Or.inl ⟨refS_fr r9 (fun k hk => f5 _ _ (by decide) (by omega)), o6, s5, o5, fun i k hi => ?_⟩⟩)
                  · rw [f5 _ _ (by decide)]; exact f69 _ _ (by decide)
                  · rw [f5 i k (by omega) (by omega)]; exact f69 i k (by omega)
                refine ⟨fun _ => ⟨fun q => ?_, fun q => ?_⟩, fun q => by omega⟩
                · first | exact op1 _ _ _ _ _ (by omega) | exact op _ (by omega)
                · first | exact op1 _ _ _ _ _ (by omega) | exact op _ (by omega)
              · rintro e4 h10 ⟨⟨z2, z3, z4, z5, rfl⟩, fz10, hj10⟩
                simp -implicitDefEqProofs only [↓dn_den, ↓dn_loc, ↓dn_k, ↓dn_add, ↓dn_sub, ↓dn_mul, ↓dn_div, ↓dn_rem, ↓dn_bop, ↓dn_ladd, ↓dn_lsub, ↓dn_lmul, ↓dn_ldiv, ↓dn_lrem, ↓dn_land, ↓dn_l2i, ↓dn_neg, ↓dn_get, ↓dn_fix, ↓dn_ald, ↓dn_gld, ↓dn_yld, ↓dn_len, ↓dn_gln, ↓dn_cc, ↓dn_cb, ↓dn_and, ↓dn_or, ↓dn_not, ↓dn_cite, ↓dn_ec, ↓dn_ei, ↓dn_skip, ↓dn_seq, ↓dn_set, ↓dn_inc, ↓dn_putf, ↓dn_putz, ↓dn_ast, ↓dn_exp, ↓dn_if, ↓dn_ret, ↓dn_retz, ↓dn_retv, ↓dn_brk, ↓dn_cont, ↓dn_cs, ↓dn_sw, ↓dn_pop32, ↓dn_pop64, ↓dn_aop, ↓dn_call, ↓dn_max, ↓dn_min, ↓dn_acp, ↓dn_i2l, ↓dn_args0, ↓dn_args1, og_pad, og_ent, og_rlt, og_rle, og_rgt, og_rge, og_req, og_rne, og_padd, og_psub, og_pmul, List.getD_cons_zero, List.getD_cons_succ, List.set_cons_zero, List.set_cons_succ, List.length_cons, List.length_nil, List.cons_append, List.nil_append, List.replicate, List.append_nil, Nat.reduceAdd, Nat.reduceSub, Nat.reduceEqDiff, if_true, if_false, reduceIte, Int.reduceAdd, Int.reduceSub, Int.reduceMul, Int.reduceNeg, Int.reduceLT, Int.reduceLE, Int.cast_ofNat_Int, true_or, or_true, true_and, and_true, false_and, List.mem_cons, List.not_mem_nil, or_false, false_or, ne_eq]
                rcases hj10 with ⟨r10, o6, s10, o10, f10⟩ | ⟨o6, l10⟩
                · have st := step _ (by rw [mst_P]; unfold mP; rw [if_neg n40, if_pos w, if_pos e40, if_neg o6])
                  refine r_asksSign (by decide) (txM_Z ht fz10) r10 (fun _ h11 r11 f11 => go _ _ _ _ _ (frZ_tr fz10 (frX_Z f11)) (Or.inl ⟨_, c, _, o + 1, qI_open hq6 o6 ?_ ?_ r11 (by omega) (stM_fr s10 (fun i k hi => f11 i k (by omega))) ?_ (fun i k hi => ?_), st⟩)) (fun y => absurd e40 y)
                  · unfold okv; omega
                  · unfold isOp; simp; omega
                  · rw [f11 _ _ (by decide)]; exact o10
                  · rw [f11 i k (by omega)]; exact f10 i k hi
                · refine r_asksSignF (by rw [l10.1.1]; exact l10.1.2.2) (go _ _ _ _ _ fz10 (Or.inr ⟨_, ?_, l10⟩))
                  exact (runs_end hr (by rw [mst_P]; unfold mP; rw [if_neg n40, if_pos w, if_pos e40, if_pos o6])).1
            · have n40' : ¬ sgn B n (tE B n a) = 40 := fun q => z (s40'.mp q)
              refine ⟨fun e4 h4 => (∃ y2 y3 y4 y5, e4 = [1000, 1, y2, y3, y4, y5]) ∧ h4 = h9, ?_, ?_⟩
              · simp -implicitDefEqProofs only [↓dn_den, ↓dn_loc, ↓dn_k, ↓dn_add, ↓dn_sub, ↓dn_mul, ↓dn_div, ↓dn_rem, ↓dn_bop, ↓dn_ladd, ↓dn_lsub, ↓dn_lmul, ↓dn_ldiv, ↓dn_lrem, ↓dn_land, ↓dn_l2i, ↓dn_neg, ↓dn_get, ↓dn_fix, ↓dn_ald, ↓dn_gld, ↓dn_yld, ↓dn_len, ↓dn_gln, ↓dn_cc, ↓dn_cb, ↓dn_and, ↓dn_or, ↓dn_not, ↓dn_cite, ↓dn_ec, ↓dn_ei, ↓dn_skip, ↓dn_seq, ↓dn_set, ↓dn_inc, ↓dn_putf, ↓dn_putz, ↓dn_ast, ↓dn_exp, ↓dn_if, ↓dn_ret, ↓dn_retz, ↓dn_retv, ↓dn_brk, ↓dn_cont, ↓dn_cs, ↓dn_sw, ↓dn_pop32, ↓dn_pop64, ↓dn_aop, ↓dn_call, ↓dn_max, ↓dn_min, ↓dn_acp, ↓dn_i2l, ↓dn_args0, ↓dn_args1, og_pad, og_ent, og_rlt, og_rle, og_rgt, og_rge, og_req, og_rne, og_padd, og_psub, og_pmul, List.getD_cons_zero, List.getD_cons_succ, List.set_cons_zero, List.set_cons_succ, List.length_cons, List.length_nil, List.cons_append, List.nil_append, List.replicate, List.append_nil, Nat.reduceAdd, Nat.reduceSub, Nat.reduceEqDiff, if_true, if_false, reduceIte, Int.reduceAdd, Int.reduceSub, Int.reduceMul, Int.reduceNeg, Int.reduceLT, Int.reduceLE, Int.cast_ofNat_Int, true_or, or_true, true_and, and_true, false_and, List.mem_cons, List.not_mem_nil, or_false, false_or, ne_eq]
                refine ⟨fun q => absurd (by trivial) q, fun _ => ?_⟩
                first | exact ⟨⟨_, _, _, _, rfl⟩, rfl⟩ | exact ⟨_, _, _, _, rfl⟩
              · rintro e4 h10 ⟨⟨z2, z3, z4, z5, rfl⟩, rfl⟩
                simp -implicitDefEqProofs only [↓dn_den, ↓dn_loc, ↓dn_k, ↓dn_add, ↓dn_sub, ↓dn_mul, ↓dn_div, ↓dn_rem, ↓dn_bop, ↓dn_ladd, ↓dn_lsub, ↓dn_lmul, ↓dn_ldiv, ↓dn_lrem, ↓dn_land, ↓dn_l2i, ↓dn_neg, ↓dn_get, ↓dn_fix, ↓dn_ald, ↓dn_gld, ↓dn_yld, ↓dn_len, ↓dn_gln, ↓dn_cc, ↓dn_cb, ↓dn_and, ↓dn_or, ↓dn_not, ↓dn_cite, ↓dn_ec, ↓dn_ei, ↓dn_skip, ↓dn_seq, ↓dn_set, ↓dn_inc, ↓dn_putf, ↓dn_putz, ↓dn_ast, ↓dn_exp, ↓dn_if, ↓dn_ret, ↓dn_retz, ↓dn_retv, ↓dn_brk, ↓dn_cont, ↓dn_cs, ↓dn_sw, ↓dn_pop32, ↓dn_pop64, ↓dn_aop, ↓dn_call, ↓dn_max, ↓dn_min, ↓dn_acp, ↓dn_i2l, ↓dn_args0, ↓dn_args1, og_pad, og_ent, og_rlt, og_rle, og_rgt, og_rge, og_req, og_rne, og_padd, og_psub, og_pmul, List.getD_cons_zero, List.getD_cons_succ, List.set_cons_zero, List.set_cons_succ, List.length_cons, List.length_nil, List.cons_append, List.nil_append, List.replicate, List.append_nil, Nat.reduceAdd, Nat.reduceSub, Nat.reduceEqDiff, if_true, if_false, reduceIte, Int.reduceAdd, Int.reduceSub, Int.reduceMul, Int.reduceNeg, Int.reduceLT, Int.reduceLE, Int.cast_ofNat_Int, true_or, or_true, true_and, and_true, false_and, List.mem_cons, List.not_mem_nil, or_false, false_or, ne_eq]
                refine r_asksSign (by decide) ht9 r9 (fun y => absurd y n40') (fun _ h11 l11 f11 => go _ _ _ _ _ (frZ_tr fz6 (frZ_tr z69 (frX_Z f11))) (Or.inr ⟨(1, tS B n (tE B n a)), ?_, qI_flt hq6 ha.2 hn.2.1 l11 ?_⟩))
                · exact (runs_end hr (by rw [mst_P]; unfold mP; rw [if_neg n40, if_pos w, if_neg n40'])).1
                · rw [f11 _ _ (by decide)]; exact f69 _ _ (by decide)
        · have f6 := fr2_tr f4 f6
          have hq6 := qI_2 hq r6 f6
          have ht6 := txM_Z ht2 (fr2_Z f6)
          have fz6 := frZ_tr fz (fr2_Z f6)
          refine ⟨fun y => ?_, fun y => ?_⟩
          · have hop : 8 ≤ qw (wrd B n a) ∧ qw (wrd B n a) < 10 ∧ alw pu (qw (wrd B n a)) = true := by
              by_cases q : 8 ≤ qw (wrd B n a) ∧ qw (wrd B n a) < 10 ∧ alw pu (qw (wrd B n a)) = true
              · exact q
              · rw [if_neg q] at y; exact absurd rfl y
            rw [if_pos hop]
            have hw := w8.mp hop
            have wg := wrd_go (B := B) (n := n) (a := a) (by omega)
            have hw18 : 60 + qw (wrd B n a) - 8 = if wrd B n a = 18 then 60 else 61 := by
              rcases hw.1 with e | e
              · rw [e]; decide
              · rw [e]; decide
            rw [v6, hw18]
            refine ⟨by omega, by split <;> omega, ?_⟩
            refine r_qOpens (o := o) hq6.2.2.1 (by rw [List.length_append]; omega) r6.1.1 hq6.2.2.2.1 (by omega) (fun o6 h7 l7 f7 => ?_) (fun o6 h7 s7 o7 f7 => ?_)
            · refine r_qAsksWordF (by rw [l7.1]; decide) (by omega) (go _ _ _ _ _ (frZ_tr fz6 (fr5_Z f7)) (Or.inr ⟨(4, tS B n a), ?_, qI_flt hq6 ha.2 hn.2.1 l7 (f7 _ _ (by decide))⟩))
              exact (runs_end hr (by rw [mst_P]; unfold mP; rw [if_neg n40, if_neg w, if_pos hw, if_pos o6])).1
            · have st := step _ (by rw [mst_P]; unfold mP; rw [if_neg n40, if_neg w, if_pos hw, if_neg o6])
              have r7 : refS h7 B n a := refS_fr r6 (fun k hk => f7 _ _ (by decide) (by omega))
              have z7 : frZ h2 h7 := frZ_tr (fr2_Z f6) (fun i k p q r => f7 i k q (by omega))
              refine r_qAsksWord (by omega) (txM_Z ht2 z7) r7 (qw_inv (by omega)).1 (fun h8 r8 f8 => go _ _ _ _ _ (frZ_tr fz (frZ_tr z7 (frX_Z f8))) (Or.inl ⟨_, c, _, o + 1, qI_open hq6 o6 ?_ ?_ r8 wg.1 (stM_fr s7 (fun i k hi => f8 i k (by omega))) ?_ (fun i k hi => ?_), st⟩))
              · unfold okv; split <;> omega
              · split <;> rfl
              · rw [f8 _ _ (by decide)]; exact o7
              · rw [f8 i k (by omega)]; exact f7 i k (by omega) (by omega)
          · have hop : ¬ (8 ≤ qw (wrd B n a) ∧ qw (wrd B n a) < 10 ∧ alw pu (qw (wrd B n a)) = true) := fun q => y (by rw [if_pos q]; omega)
            exact og_nx_mk (by omega) ⟨0, _, _, _, _, rfl, m, Or.inr ⟨rfl, by omega⟩, fz6, Or.inl ⟨a, c, V, o, hq6, hr, fun _ => ⟨n40, w, fun z => hop (w8.mpr z)⟩⟩⟩
    · exact out (fun z => y5 z.2)
    · exact out (fun z => by have := z.1; omega)
  · rintro e2 h2 ⟨x1, x2, x3, x4, x5, rfl, m, hm, fz, hj⟩
    simp -implicitDefEqProofs only [↓dn_den, ↓dn_loc, ↓dn_k, ↓dn_add, ↓dn_sub, ↓dn_mul, ↓dn_div, ↓dn_rem, ↓dn_bop, ↓dn_ladd, ↓dn_lsub, ↓dn_lmul, ↓dn_ldiv, ↓dn_lrem, ↓dn_land, ↓dn_l2i, ↓dn_neg, ↓dn_get, ↓dn_fix, ↓dn_ald, ↓dn_gld, ↓dn_yld, ↓dn_len, ↓dn_gln, ↓dn_cc, ↓dn_cb, ↓dn_and, ↓dn_or, ↓dn_not, ↓dn_cite, ↓dn_ec, ↓dn_ei, ↓dn_skip, ↓dn_seq, ↓dn_set, ↓dn_inc, ↓dn_putf, ↓dn_putz, ↓dn_ast, ↓dn_exp, ↓dn_if, ↓dn_ret, ↓dn_retz, ↓dn_retv, ↓dn_brk, ↓dn_cont, ↓dn_cs, ↓dn_sw, ↓dn_pop32, ↓dn_pop64, ↓dn_aop, ↓dn_call, ↓dn_max, ↓dn_min, ↓dn_acp, ↓dn_i2l, ↓dn_args0, ↓dn_args1, og_pad, og_ent, og_rlt, og_rle, og_rgt, og_rge, og_req, og_rne, og_padd, og_psub, og_pmul, List.getD_cons_zero, List.getD_cons_succ, List.set_cons_zero, List.set_cons_succ, List.length_cons, List.length_nil, List.cons_append, List.nil_append, List.replicate, List.append_nil, Nat.reduceAdd, Nat.reduceSub, Nat.reduceEqDiff, if_true, if_false, reduceIte, Int.reduceAdd, Int.reduceSub, Int.reduceMul, Int.reduceNeg, Int.reduceLT, Int.reduceLE, Int.cast_ofNat_Int, true_or, or_true, true_and, and_true, false_and, List.mem_cons, List.not_mem_nil, or_false, false_or, ne_eq, og_i32]
    refine ⟨fun z5 => ?_, fun z5 => ?_⟩
    · rcases hj with ⟨a, c, V, o, g, -⟩ | ⟨z, e, g⟩
      · exact absurd g.1.1.1 z5
      · exact hF h2 z e g fz
    obtain ⟨a, c, V, o, hq, hr, hop⟩ : ∃ a c V o, qI h2 B n o0 W0 a c V o ∧ runs B n pu m (false, a, c, V, o) R ∧ (True → nop B n pu a) := hj.elim id (fun ⟨z, _, g⟩ => absurd (by have := g.1.2.2; rw [← g.1.1] at this; exact this) z5)
    obtain ⟨n40, nw, n18⟩ := hop trivial
    have ht2 := txM_Z ht fz
    have hk2 : h2 1000 48 = kdM pu := by rw [fz _ _ (by decide) (by decide) (by decide)]; exact hk
    have ha := hq.1.2.1
    have hlen := hq.2.2.2.2.2.1
    have hsh := hq.2.2.2.2.2.2.1
    have ho := hq.2.2.2.2.2.2.2.2.2
    have ho1 := hq.2.2.2.2.2.2.2.1
    have ho2 := hq.2.2.2.2.2.2.2.2.1
    have cg := cn_rg V
    have te := tE_le (B := B) ha.2
    have fin : ∀ v h5 a', a < a' → refS h5 B n a' → frX h2 h5 → okc v → mst B n pu (false, a, c, V, o) = .inl (gE a' (eP V (c ++ [dc v]) o)) → m_Model_qCode [1000, v] h5 (fun _ h1 => m_Model_qEndsPart [1000] h1 (fun _ h' => K 0 h')) := by
      intro v h5 a' haa r5 f5 hv em
      have ha' := r5.2.1
      refine r_qCode (c := c) (cdM_fr hq.2.1 (fun i k hi => f5 i k (by omega))) (by omega) hv (fun h6 c6 f6 => ?_)
      have e9 : ∀ i k, i ≠ 1070 → ¬ (i = 1000 ∧ (k = 91 ∨ k = 2 ∨ k = 4 ∨ k = 5 ∨ k = 6 ∨ k = 10 ∨ k = 36)) → h6 i k = h2 i k := fun i k p q => by rw [f6 i k p (by omega)]; exact f5 i k (by omega)
      refine r_qEndsPart (V := V) (W0 := W0) (o := o) (stM_fr hq.2.2.1 (fun i k hi => e9 i k (by omega) (by omega))) c6 (by rw [e9 _ _ (by decide) (by decide)]; exact hq.2.2.2.2.1) (by rw [f6 _ _ (by decide) (by decide)]; exact r5.1.1) (by rw [e9 _ _ (by decide) (by decide)]; exact hq.2.2.2.1) (by omega) (by rw [List.length_append]; simp; omega) (fun v hv h60 => okv_60 (shp_mem hsh v hv) h60) (fun h7 c7 V7 o7 e7 s7 d7 q7 f7 => ?_)
      have sp := eP_sp (V := V) (c := c ++ [dc v]) (o := o) hsh
      have sl := eP_le (V := V) (c := c ++ [dc v]) (o := o)
      rw [e7] at sp sl em
      obtain ⟨k', ek, hr'⟩ := runs_go hr em
      have sp4 := sp.2.2.2
      have sp3 := sp.2.2.1
      simp only [List.length_append, List.length_cons, List.length_nil] at sp4 sp3 sl
      refine hT h7 a' c7 V7 o7 k' (by omega) ⟨refS_fr r5 (fun k hk => ?_), d7, s7, q7, ?_, by omega, sp.1, by omega, ho2, by omega⟩ sp.2.1 hr' (frZ_tr fz (fun i k p q r => ?_))
      · rw [f7 _ _ (by decide) (by omega), f6 _ _ (by decide) (by omega)]
      · rw [f7 _ _ (by decide) (by decide), e9 _ _ (by decide) (by decide)]; exact hq.2.2.2.2.1
      · rw [f7 i k p (by omega), e9 i k p (by omega)]
    refine r_qWordOf (pu := pu) hk2 (by decide) ht2 hq.1 (fun h4 r4 v4 f4 => ?_)
    have ht4 := txM_Z ht2 (fr2_Z f4)
    have gi := gkn_iff (pu := pu) (w := wrd B n a)
    by_cases gk : gKn pu (wrd B n a) = true
    · have gq := gi.mp gk
      rw [if_pos gq]
      have iv := qw_inv gq.1
      have wg := wrd_go (B := B) (n := n) (a := a) (by
        unfold gKn at gk
        simp only [Bool.or_eq_true, Bool.and_eq_true, decide_eq_true_eq] at gk
        omega)
      refine ⟨fun e3 h3 => (∃ y1 y3 y4 y5, e3 = [1000, y1, qw (wrd B n a), y3, y4, y5]) ∧ refS h3 B n (tE B n a) ∧ frX h2 h3, ?_, ?_⟩
      · simp -implicitDefEqProofs only [↓dn_den, ↓dn_loc, ↓dn_k, ↓dn_add, ↓dn_sub, ↓dn_mul, ↓dn_div, ↓dn_rem, ↓dn_bop, ↓dn_ladd, ↓dn_lsub, ↓dn_lmul, ↓dn_ldiv, ↓dn_lrem, ↓dn_land, ↓dn_l2i, ↓dn_neg, ↓dn_get, ↓dn_fix, ↓dn_ald, ↓dn_gld, ↓dn_yld, ↓dn_len, ↓dn_gln, ↓dn_cc, ↓dn_cb, ↓dn_and, ↓dn_or, ↓dn_not, ↓dn_cite, ↓dn_ec, ↓dn_ei, ↓dn_skip, ↓dn_seq, ↓dn_set, ↓dn_inc, ↓dn_putf, ↓dn_putz, ↓dn_ast, ↓dn_exp, ↓dn_if, ↓dn_ret, ↓dn_retz, ↓dn_retv, ↓dn_brk, ↓dn_cont, ↓dn_cs, ↓dn_sw, ↓dn_pop32, ↓dn_pop64, ↓dn_aop, ↓dn_call, ↓dn_max, ↓dn_min, ↓dn_acp, ↓dn_i2l, ↓dn_args0, ↓dn_args1, og_pad, og_ent, og_rlt, og_rle, og_rgt, og_rge, og_req, og_rne, og_padd, og_psub, og_pmul, List.getD_cons_zero, List.getD_cons_succ, List.set_cons_zero, List.set_cons_succ, List.length_cons, List.length_nil, List.cons_append, List.nil_append, List.replicate, List.append_nil, Nat.reduceAdd, Nat.reduceSub, Nat.reduceEqDiff, if_true, if_false, reduceIte, Int.reduceAdd, Int.reduceSub, Int.reduceMul, Int.reduceNeg, Int.reduceLT, Int.reduceLE, Int.cast_ofNat_Int, true_or, or_true, true_and, and_true, false_and, List.mem_cons, List.not_mem_nil, or_false, false_or, ne_eq]
        refine ⟨fun _ => ?_, fun z => by omega⟩
        exact r_qAsksWord (by omega) ht4 r4 iv.1 (fun h5 r5 f5 => ⟨⟨_, _, _, _, rfl⟩, r5, frX_tr (frX_2 f4) f5⟩)
      · rintro e3 h5 ⟨⟨y1, y3, y4, y5, rfl⟩, r5, f5⟩
        simp -implicitDefEqProofs only [↓dn_den, ↓dn_loc, ↓dn_k, ↓dn_add, ↓dn_sub, ↓dn_mul, ↓dn_div, ↓dn_rem, ↓dn_bop, ↓dn_ladd, ↓dn_lsub, ↓dn_lmul, ↓dn_ldiv, ↓dn_lrem, ↓dn_land, ↓dn_l2i, ↓dn_neg, ↓dn_get, ↓dn_fix, ↓dn_ald, ↓dn_gld, ↓dn_yld, ↓dn_len, ↓dn_gln, ↓dn_cc, ↓dn_cb, ↓dn_and, ↓dn_or, ↓dn_not, ↓dn_cite, ↓dn_ec, ↓dn_ei, ↓dn_skip, ↓dn_seq, ↓dn_set, ↓dn_inc, ↓dn_putf, ↓dn_putz, ↓dn_ast, ↓dn_exp, ↓dn_if, ↓dn_ret, ↓dn_retz, ↓dn_retv, ↓dn_brk, ↓dn_cont, ↓dn_cs, ↓dn_sw, ↓dn_pop32, ↓dn_pop64, ↓dn_aop, ↓dn_call, ↓dn_max, ↓dn_min, ↓dn_acp, ↓dn_i2l, ↓dn_args0, ↓dn_args1, og_pad, og_ent, og_rlt, og_rle, og_rgt, og_rge, og_req, og_rne, og_padd, og_psub, og_pmul, List.getD_cons_zero, List.getD_cons_succ, List.set_cons_zero, List.set_cons_succ, List.length_cons, List.length_nil, List.cons_append, List.nil_append, List.replicate, List.append_nil, Nat.reduceAdd, Nat.reduceSub, Nat.reduceEqDiff, if_true, if_false, reduceIte, Int.reduceAdd, Int.reduceSub, Int.reduceMul, Int.reduceNeg, Int.reduceLT, Int.reduceLE, Int.cast_ofNat_Int, true_or, or_true, true_and, and_true, false_and, List.mem_cons, List.not_mem_nil, or_false, false_or, ne_eq, og_i32]
        refine ⟨fun _ => ⟨by omega, fin _ h5 _ wg.1 r5 f5 (by unfold okc; omega) ?_⟩, fun z => by omega⟩
        rw [mst_P]
        unfold mP
        rw [if_neg n40, if_neg nw, if_neg n18, if_pos gk, iv.2 gq.2.1]
    · rw [if_neg (fun z => gk (gi.mpr z))]
      refine ⟨fun e3 h3 => (∃ y1 y3 y4 y5, e3 = [1000, y1, -1, y3, y4, y5]) ∧ h3 = h4, ?_, ?_⟩
      · simp -implicitDefEqProofs only [↓dn_den, ↓dn_loc, ↓dn_k, ↓dn_add, ↓dn_sub, ↓dn_mul, ↓dn_div, ↓dn_rem, ↓dn_bop, ↓dn_ladd, ↓dn_lsub, ↓dn_lmul, ↓dn_ldiv, ↓dn_lrem, ↓dn_land, ↓dn_l2i, ↓dn_neg, ↓dn_get, ↓dn_fix, ↓dn_ald, ↓dn_gld, ↓dn_yld, ↓dn_len, ↓dn_gln, ↓dn_cc, ↓dn_cb, ↓dn_and, ↓dn_or, ↓dn_not, ↓dn_cite, ↓dn_ec, ↓dn_ei, ↓dn_skip, ↓dn_seq, ↓dn_set, ↓dn_inc, ↓dn_putf, ↓dn_putz, ↓dn_ast, ↓dn_exp, ↓dn_if, ↓dn_ret, ↓dn_retz, ↓dn_retv, ↓dn_brk, ↓dn_cont, ↓dn_cs, ↓dn_sw, ↓dn_pop32, ↓dn_pop64, ↓dn_aop, ↓dn_call, ↓dn_max, ↓dn_min, ↓dn_acp, ↓dn_i2l, ↓dn_args0, ↓dn_args1, og_pad, og_ent, og_rlt, og_rle, og_rgt, og_rge, og_req, og_rne, og_padd, og_psub, og_pmul, List.getD_cons_zero, List.getD_cons_succ, List.set_cons_zero, List.set_cons_succ, List.length_cons, List.length_nil, List.cons_append, List.nil_append, List.replicate, List.append_nil, Nat.reduceAdd, Nat.reduceSub, Nat.reduceEqDiff, if_true, if_false, reduceIte, Int.reduceAdd, Int.reduceSub, Int.reduceMul, Int.reduceNeg, Int.reduceLT, Int.reduceLE, Int.cast_ofNat_Int, true_or, or_true, true_and, and_true, false_and, List.mem_cons, List.not_mem_nil, or_false, false_or, ne_eq]
        refine ⟨fun z => absurd (by trivial) z, fun _ => ?_⟩
        first | exact ⟨⟨_, _, _, _, rfl⟩, rfl⟩ | exact ⟨_, _, _, _, rfl⟩
      · rintro e3 h5 ⟨⟨y1, y3, y4, y5, rfl⟩, rfl⟩
        simp -implicitDefEqProofs only [↓dn_den, ↓dn_loc, ↓dn_k, ↓dn_add, ↓dn_sub, ↓dn_mul, ↓dn_div, ↓dn_rem, ↓dn_bop, ↓dn_ladd, ↓dn_lsub, ↓dn_lmul, ↓dn_ldiv, ↓dn_lrem, ↓dn_land, ↓dn_l2i, ↓dn_neg, ↓dn_get, ↓dn_fix, ↓dn_ald, ↓dn_gld, ↓dn_yld, ↓dn_len, ↓dn_gln, ↓dn_cc, ↓dn_cb, ↓dn_and, ↓dn_or, ↓dn_not, ↓dn_cite, ↓dn_ec, ↓dn_ei, ↓dn_skip, ↓dn_seq, ↓dn_set, ↓dn_inc, ↓dn_putf, ↓dn_putz, ↓dn_ast, ↓dn_exp, ↓dn_if, ↓dn_ret, ↓dn_retz, ↓dn_retv, ↓dn_brk, ↓dn_cont, ↓dn_cs, ↓dn_sw, ↓dn_pop32, ↓dn_pop64, ↓dn_aop, ↓dn_call, ↓dn_max, ↓dn_min, ↓dn_acp, ↓dn_i2l, ↓dn_args0, ↓dn_args1, og_pad, og_ent, og_rlt, og_rle, og_rgt, og_rge, og_req, og_rne, og_padd, og_psub, og_pmul, List.getD_cons_zero, List.getD_cons_succ, List.set_cons_zero, List.set_cons_succ, List.length_cons, List.length_nil, List.cons_append, List.nil_append, List.replicate, List.append_nil, Nat.reduceAdd, Nat.reduceSub, Nat.reduceEqDiff, if_true, if_false, reduceIte, Int.reduceAdd, Int.reduceSub, Int.reduceMul, Int.reduceNeg, Int.reduceLT, Int.reduceLE, Int.cast_ofNat_Int, true_or, or_true, true_and, and_true, false_and, List.mem_cons, List.not_mem_nil, or_false, false_or, ne_eq, og_i32]
        refine ⟨fun z => absurd (by trivial) z, fun _ => ?_⟩
        refine r_number ht4 r4 (fun k2 kl kr h6 r6 f6 => ?_) (fun v kk p hc hv h6 l6 f6 => ?_)
        · refine ⟨by omega, fin _ h6 _ (num_go k2).1 r6 (frX_tr (frX_2 f4) f6) (by unfold okc; omega) ?_⟩
          rw [mst_P]
          unfold mP
          have ed : dc (1000 + tN B n a) = tN B n a := by unfold dc; rw [if_pos (by omega)]; omega
          rw [if_neg n40, if_neg nw, if_neg n18, if_neg gk, if_pos k2, if_neg (by omega), ed]
        · have hR : R = .inr (kk, p) := by
            rcases hc with ⟨q, rfl, rfl⟩ | ⟨q, q4, rfl, rfl⟩ | ⟨q, -, q4, -, -⟩
            · exact (runs_end hr (by rw [mst_P]; unfold mP; rw [if_neg n40, if_neg nw, if_neg n18, if_neg gk, if_neg q])).1
            · exact (runs_end hr (by rw [mst_P]; unfold mP; rw [if_neg n40, if_neg nw, if_neg n18, if_neg gk, if_pos q, if_pos q4])).1
            · exact absurd (tN_rg q) q4
          have e91 : h6 1000 91 = c.length := by rw [f6 _ _ (by decide), f4 _ _ (by decide)]; exact hq.2.1.1
          refine ⟨by omega, r_qCodeF (m := 1600) (by omega) (by decide) (fun h7 e7 f7 => r_qEndsPartF ?_ (hF h7 (kk, p) hR ⟨⟨?_, ?_, l6.2.2⟩, by omega, by omega⟩ (frZ_tr fz (frZ_tr (fr2_Z f4) (frZ_tr (frX_Z f6) (fun i k p _ r => f7 i k p (by omega)))))))⟩
          · rw [f7 _ _ (by decide) (by decide), l6.1]; exact l6.2.2
          · rw [f7 _ _ (by decide) (by decide)]; exact l6.1
          · rw [f7 _ _ (by decide) (by decide)]; exact l6.2.1
end
end
