section
-- questions: the reference, whole
section
variable {q h h0 h' : Hp} {n M : Int} {K : Int → Hp → Prop} {A : Yd} {P : Pr} {U : List Yd} {X : Yd}
theorem frX_N {h h' : Hp} (a : frX h h') : frN h h' := fun i k p => a i k (by omega)
theorem frZ_N {h h' : Hp} (a : frZ h h') : frN h h' := fun i k p => a i k (by omega) (by omega) (by omega)
set_option maxHeartbeats 400000 in
theorem m_ask (hr : relM q h M A P U X) (hx : okX n A P U X) (hK0 : ∀ z, gQ (X 2) (X 0 1) = .inr z → ∀ h', relM q h' M A P U (sFt X z.1 z.2) → K (-1000000000000000) h') (hK1 : ∀ k c, gQ (X 2) (X 0 1) = .inl (k, c) → ∀ h', relM q h' M A P U (sFt X 0 (-1)) → K (qFo k c A (sNp A)) h') : m_Model_ask [1000] h K := by
  have e1 := hr.2.2.1.2.2.1.1
  have x1 := hx.2.2.2.2.1
  have ho := hx.1.1
  have h6 := ho.1
  unfold m_Model_ask
  simp -implicitDefEqProofs only [↓dn_den, ↓dn_loc, ↓dn_k, ↓dn_add, ↓dn_sub, ↓dn_mul, ↓dn_div, ↓dn_rem, ↓dn_bop, ↓dn_ladd, ↓dn_lsub, ↓dn_lmul, ↓dn_ldiv, ↓dn_lrem, ↓dn_land, ↓dn_l2i, ↓dn_neg, ↓dn_get, ↓dn_fix, ↓dn_ald, ↓dn_gld, ↓dn_yld, ↓dn_len, ↓dn_gln, ↓dn_cc, ↓dn_cb, ↓dn_and, ↓dn_not, ↓dn_cite, ↓dn_skip, ↓dn_seq, ↓dn_set, ↓dn_inc, ↓dn_putf, ↓dn_putz, ↓dn_ast, ↓dn_exp, ↓dn_ret, ↓dn_retz, ↓dn_retv, ↓dn_brk, ↓dn_cont, ↓dn_cs, ↓dn_sw, ↓dn_pop32, ↓dn_pop64, ↓dn_aop, ↓dn_call, ↓dn_max, ↓dn_min, ↓dn_acp, ↓dn_i2l, ↓dn_args0, ↓dn_args1, og_pad, og_ent, og_rlt, og_rle, og_rgt, og_rge, og_req, og_rne, og_padd, og_psub, og_pmul, List.getD_cons_zero, List.getD_cons_succ, List.set_cons_zero, List.set_cons_succ, List.length_cons, List.length_nil, List.cons_append, List.nil_append, List.replicate, List.append_nil, Nat.reduceAdd, Nat.reduceSub, Nat.reduceEqDiff, if_true, if_false, reduceIte, Int.reduceAdd, Int.reduceSub, Int.reduceMul, Int.reduceNeg, Int.reduceLT, Int.reduceLE, Int.cast_ofNat_Int, true_or, or_true, true_and, and_true, false_and, List.mem_cons, List.not_mem_nil, or_false, false_or, ne_eq]
  rw [e1]
  have W : ∀ i k, ¬ (i = 1000 ∧ (k = 3 ∨ k = 1 ∨ k = 2 ∨ k = 4 ∨ k = 5 ∨ k = 6 ∨ k = 48 ∨ k = 91 ∨ k = 93 ∨ k = 94 ∨ k = 95)) → og_up (og_up (og_up (og_up (og_up (og_up (og_up (og_up (og_up (og_up (og_up h 1000 3 (X 0 1)) 1000 1 0) 1000 2 0) 1000 4 (-1)) 1000 5 0) 1000 6 (-1)) 1000 48 3) 1000 91 0) 1000 93 0) 1000 94 0) 1000 95 0 i k = h i k := fun i k hp => by
    unfold og_up
    rw [if_neg (by omega), if_neg (by omega), if_neg (by omega), if_neg (by omega), if_neg (by omega), if_neg (by omega), if_neg (by omega), if_neg (by omega), if_neg (by omega), if_neg (by omega), if_neg (by omega)]
  have V : ∀ i k, og_up (og_up (og_up (og_up (og_up (og_up (og_up (og_up (og_up (og_up (og_up h 1000 3 (X 0 1)) 1000 1 0) 1000 2 0) 1000 4 (-1)) 1000 5 0) 1000 6 (-1)) 1000 48 3) 1000 91 0) 1000 93 0) 1000 94 0) 1000 95 0 i k = if i = 1000 ∧ k = 95 then 0 else if i = 1000 ∧ k = 94 then 0 else if i = 1000 ∧ k = 93 then 0 else if i = 1000 ∧ k = 91 then 0 else if i = 1000 ∧ k = 48 then 3 else if i = 1000 ∧ k = 6 then -1 else if i = 1000 ∧ k = 5 then 0 else if i = 1000 ∧ k = 4 then -1 else if i = 1000 ∧ k = 2 then 0 else if i = 1000 ∧ k = 1 then 0 else if i = 1000 ∧ k = 3 then X 0 1 else h i k := fun i k => rfl
  generalize og_up (og_up (og_up (og_up (og_up (og_up (og_up (og_up (og_up (og_up (og_up h 1000 3 (X 0 1)) 1000 1 0) 1000 2 0) 1000 4 (-1)) 1000 5 0) 1000 6 (-1)) 1000 48 3) 1000 91 0) 1000 93 0) 1000 94 0) 1000 95 0 = h1 at W V
  have V3 : h1 1000 3 = X 0 1 := by rw [V]; simp
  have V1 : h1 1000 1 = 0 := by rw [V]; simp
  have V2 : h1 1000 2 = 0 := by rw [V]; simp
  have V4 : h1 1000 4 = -1 := by rw [V]; simp
  have V5 : h1 1000 5 = 0 := by rw [V]; simp
  have V6 : h1 1000 6 = -1 := by rw [V]; simp
  have V48 : h1 1000 48 = kdM 13 := by rw [V, show kdM 13 = 3 by decide]; simp
  have V91 : h1 1000 91 = 0 := by rw [V]; simp
  have V93 : h1 1000 93 = 0 := by rw [V]; simp
  have V94 : h1 1000 94 = 0 := by rw [V]; simp
  have V95 : h1 1000 95 = 0 := by rw [V]; simp
  clear V
  have N1 : frN h h1 := fun i k hp => W i k (by omega)
  have ht1 : txM h1 (X 2) (X 0 1) := txM_rel hr hx V3 (fun i k hi => W i k (by omega))
  refine r_qKind ht1 (refS_0 x1.1.1 V2 V4 V5 V6) (fun j h2 hj hc f2 => ?_)
  have ht2 := txM_X ht1 f2
  have te := tE_le (B := X 2) (n := X 0 1) (a := 0) x1.1.1
  have ts := (tS_sp (X 2) (X 0 1) 0).1
  have tg := tE_ge (X 2) (X 0 1) 0
  refine ⟨fun e3 h3 => e3 = [1000, j, 0] ∧ frN h h3 ∧ h3 1000 1 = 0 ∧ txM h3 (X 2) (X 0 1) ∧ ((∃ z, gQ (X 2) (X 0 1) = .inr z ∧ fltM h3 z.1 z.2) ∨ (∃ b c, wrd (X 2) (X 0 1) 0 = 25 + j ∧ gR (X 2) (X 0 1) 13 (decide (wrd (X 2) (X 0 1) 0 ≤ 27)) (tE (X 2) (X 0 1) 0) [] = .inl (b, c) ∧ refS h3 (X 2) (X 0 1) b ∧ cdM h3 c)), ?_, ?_⟩
  · rcases hc with ⟨w, r2⟩ | ⟨w, q, l2⟩
    · have eQ : gQ (X 2) (X 0 1) = bnd (gR (X 2) (X 0 1) 13 (decide (wrd (X 2) (X 0 1) 0 ≤ 27)) (tE (X 2) (X 0 1) 0) []) (fun a c => if tS (X 2) (X 0 1) a < X 0 1 then .inr (1, tS (X 2) (X 0 1) a) else .inl (wrd (X 2) (X 0 1) 0, c)) := by unfold gQ; rw [if_pos (by omega)]
      have cd2 : cdM h2 [] := ⟨by rw [f2 _ _ (by omega)]; exact V91, fun j hj => absurd hj (by simp)⟩
      have st2 : stM h2 [] := ⟨by rw [f2 _ _ (by omega)]; exact V93, fun j hj => absurd hj (by simp)⟩
      have qb : qB h2 (X 2) (X 0 1) (tE (X 2) (X 0 1) 0) [] [] 0 := ⟨r2, cd2, st2, by rw [f2 _ _ (by omega)]; exact V94, by simp; omega, by decide, by decide⟩
      have k2 : h2 1000 48 = kdM 13 := by rw [f2 _ _ (by omega)]; exact V48
      have b2 : h2 1000 95 = 0 := by rw [f2 _ _ (by omega)]; exact V95
      have g5 : h2 1000 5 = 0 := r2.1.1
      refine ph_if (ph_and ph_gk ph_lk) (fun c => ?_) (fun c => ?_)
      · have c : j < 3 := c.2
        have e : gR (X 2) (X 0 1) 13 (decide (wrd (X 2) (X 0 1) 0 ≤ 27)) (tE (X 2) (X 0 1) 0) [] = gT (X 2) (X 0 1) 13 6 (tE (X 2) (X 0 1) 0) [] := by unfold gR; rw [decide_eq_true (by omega), if_pos rfl]
        simp -implicitDefEqProofs only [↓dn_den, ↓dn_loc, ↓dn_k, ↓dn_add, ↓dn_sub, ↓dn_mul, ↓dn_div, ↓dn_rem, ↓dn_bop, ↓dn_ladd, ↓dn_lsub, ↓dn_lmul, ↓dn_ldiv, ↓dn_lrem, ↓dn_land, ↓dn_l2i, ↓dn_neg, ↓dn_get, ↓dn_fix, ↓dn_ald, ↓dn_gld, ↓dn_yld, ↓dn_len, ↓dn_gln, ↓dn_cc, ↓dn_cb, ↓dn_and, ↓dn_or, ↓dn_not, ↓dn_cite, ↓dn_ec, ↓dn_ei, ↓dn_skip, ↓dn_seq, ↓dn_set, ↓dn_inc, ↓dn_putf, ↓dn_putz, ↓dn_ast, ↓dn_exp, ↓dn_if, ↓dn_ret, ↓dn_retz, ↓dn_retv, ↓dn_brk, ↓dn_cont, ↓dn_cs, ↓dn_sw, ↓dn_pop32, ↓dn_pop64, ↓dn_aop, ↓dn_call, ↓dn_max, ↓dn_min, ↓dn_acp, ↓dn_i2l, ↓dn_args0, ↓dn_args1, og_pad, og_ent, og_rlt, og_rle, og_rgt, og_rge, og_req, og_rne, og_padd, og_psub, og_pmul, List.getD_cons_zero, List.getD_cons_succ, List.set_cons_zero, List.set_cons_succ, List.length_cons, List.length_nil, List.cons_append, List.nil_append, List.replicate, List.append_nil, Nat.reduceAdd, Nat.reduceSub, Nat.reduceEqDiff, if_true, if_false, reduceIte, Int.reduceAdd, Int.reduceSub, Int.reduceMul, Int.reduceNeg, Int.reduceLT, Int.reduceLE, Int.cast_ofNat_Int, true_or, or_true, true_and, and_true, false_and, List.mem_cons, List.not_mem_nil, or_false, false_or, ne_eq]
        refine r_qTest (pu := 13) k2 ht2 ⟨qb, b2, by simp; omega, fun v hv => by cases hv⟩ (fun h3 b c e3 r3 c3 l3 f3 => ?_) (fun h3 z e3 l3 f3 => ?_)
        · rw [← e] at e3
          have r : frN h h3 ∧ h3 1000 1 = 0 ∧ txM h3 (X 2) (X 0 1) ∧ ((∃ z, gQ (X 2) (X 0 1) = .inr z ∧ fltM h3 z.1 z.2) ∨ (∃ b c, wrd (X 2) (X 0 1) 0 = 25 + j ∧ gR (X 2) (X 0 1) 13 (decide (wrd (X 2) (X 0 1) 0 ≤ 27)) (tE (X 2) (X 0 1) 0) [] = .inl (b, c) ∧ refS h3 (X 2) (X 0 1) b ∧ cdM h3 c)) := ⟨frN_tr N1 (frN_tr (frX_N f2) (frZ_N f3)), by rw [f3 _ _ (by decide) (by decide) (by omega), f2 _ _ (by omega)]; exact V1, txM_Z ht2 f3, Or.inr ⟨b, c, w, e3, r3, c3⟩⟩
          first | exact ⟨rfl, r⟩ | exact r
        · rw [← e] at e3
          rw [e3, bnd_r] at eQ
          have r : frN h h3 ∧ h3 1000 1 = 0 ∧ txM h3 (X 2) (X 0 1) ∧ ((∃ z, gQ (X 2) (X 0 1) = .inr z ∧ fltM h3 z.1 z.2) ∨ (∃ b c, wrd (X 2) (X 0 1) 0 = 25 + j ∧ gR (X 2) (X 0 1) 13 (decide (wrd (X 2) (X 0 1) 0 ≤ 27)) (tE (X 2) (X 0 1) 0) [] = .inl (b, c) ∧ refS h3 (X 2) (X 0 1) b ∧ cdM h3 c)) := ⟨frN_tr N1 (frN_tr (frX_N f2) (frZ_N f3)), by rw [f3 _ _ (by decide) (by decide) (by omega), f2 _ _ (by omega)]; exact V1, txM_Z ht2 f3, Or.inl ⟨z, eQ, l3⟩⟩
          first | exact ⟨rfl, r⟩ | exact r
      · have c : ¬ j < 3 := fun z => c ⟨g5, z⟩
        have e : gR (X 2) (X 0 1) 13 (decide (wrd (X 2) (X 0 1) 0 ≤ 27)) (tE (X 2) (X 0 1) 0) [] = gS (X 2) (X 0 1) 13 6 (tE (X 2) (X 0 1) 0) [] := by unfold gR; rw [decide_eq_false (by omega), if_neg (by decide)]
        refine ph_if ph_gk (fun _ => ?_) (fun z => absurd g5 z)
        simp -implicitDefEqProofs only [↓dn_den, ↓dn_loc, ↓dn_k, ↓dn_add, ↓dn_sub, ↓dn_mul, ↓dn_div, ↓dn_rem, ↓dn_bop, ↓dn_ladd, ↓dn_lsub, ↓dn_lmul, ↓dn_ldiv, ↓dn_lrem, ↓dn_land, ↓dn_l2i, ↓dn_neg, ↓dn_get, ↓dn_fix, ↓dn_ald, ↓dn_gld, ↓dn_yld, ↓dn_len, ↓dn_gln, ↓dn_cc, ↓dn_cb, ↓dn_and, ↓dn_or, ↓dn_not, ↓dn_cite, ↓dn_ec, ↓dn_ei, ↓dn_skip, ↓dn_seq, ↓dn_set, ↓dn_inc, ↓dn_putf, ↓dn_putz, ↓dn_ast, ↓dn_exp, ↓dn_if, ↓dn_ret, ↓dn_retz, ↓dn_retv, ↓dn_brk, ↓dn_cont, ↓dn_cs, ↓dn_sw, ↓dn_pop32, ↓dn_pop64, ↓dn_aop, ↓dn_call, ↓dn_max, ↓dn_min, ↓dn_acp, ↓dn_i2l, ↓dn_args0, ↓dn_args1, og_pad, og_ent, og_rlt, og_rle, og_rgt, og_rge, og_req, og_rne, og_padd, og_psub, og_pmul, List.getD_cons_zero, List.getD_cons_succ, List.set_cons_zero, List.set_cons_succ, List.length_cons, List.length_nil, List.cons_append, List.nil_append, List.replicate, List.append_nil, Nat.reduceAdd, Nat.reduceSub, Nat.reduceEqDiff, if_true, if_false, reduceIte, Int.reduceAdd, Int.reduceSub, Int.reduceMul, Int.reduceNeg, Int.reduceLT, Int.reduceLE, Int.cast_ofNat_Int, true_or, or_true, true_and, and_true, false_and, List.mem_cons, List.not_mem_nil, or_false, false_or, ne_eq]
        refine r_qSums (pu := 13) (b := 0) k2 ht2 (by decide) qb b2 (fun h3 b c e3 q3 b3 f3 => ?_) (fun h3 z e3 l3 f3 => ?_)
        · have e3 : gS (X 2) (X 0 1) 13 6 (tE (X 2) (X 0 1) 0) [] = .inl (b, c) := e3
          rw [← e] at e3
          have r : frN h h3 ∧ h3 1000 1 = 0 ∧ txM h3 (X 2) (X 0 1) ∧ ((∃ z, gQ (X 2) (X 0 1) = .inr z ∧ fltM h3 z.1 z.2) ∨ (∃ b c, wrd (X 2) (X 0 1) 0 = 25 + j ∧ gR (X 2) (X 0 1) 13 (decide (wrd (X 2) (X 0 1) 0 ≤ 27)) (tE (X 2) (X 0 1) 0) [] = .inl (b, c) ∧ refS h3 (X 2) (X 0 1) b ∧ cdM h3 c)) := ⟨frN_tr N1 (frN_tr (frX_N f2) (frZ_N f3)), by rw [f3 _ _ (by decide) (by decide) (by omega), f2 _ _ (by omega)]; exact V1, txM_Z ht2 f3, Or.inr ⟨b, c, w, e3, q3.1, q3.2.1⟩⟩
          first | exact ⟨rfl, r⟩ | exact r
        · have e3 : gS (X 2) (X 0 1) 13 6 (tE (X 2) (X 0 1) 0) [] = .inr z := e3
          rw [← e] at e3
          rw [e3, bnd_r] at eQ
          have r : frN h h3 ∧ h3 1000 1 = 0 ∧ txM h3 (X 2) (X 0 1) ∧ ((∃ z, gQ (X 2) (X 0 1) = .inr z ∧ fltM h3 z.1 z.2) ∨ (∃ b c, wrd (X 2) (X 0 1) 0 = 25 + j ∧ gR (X 2) (X 0 1) 13 (decide (wrd (X 2) (X 0 1) 0 ≤ 27)) (tE (X 2) (X 0 1) 0) [] = .inl (b, c) ∧ refS h3 (X 2) (X 0 1) b ∧ cdM h3 c)) := ⟨frN_tr N1 (frN_tr (frX_N f2) (frZ_N f3)), by rw [f3 _ _ (by decide) (by decide) (by omega), f2 _ _ (by omega)]; exact V1, txM_Z ht2 f3, Or.inl ⟨z, eQ, l3.1⟩⟩
          first | exact ⟨rfl, r⟩ | exact r
    · have eQ : gQ (X 2) (X 0 1) = .inr (1, tS (X 2) (X 0 1) 0) := by unfold gQ; rw [if_neg q]
      have n5 : ¬ h2 1000 5 = 0 := fun z => l2.2.2 (l2.1.symm.trans z)
      refine ph_if (ph_and ph_gk ph_lk) (fun c => absurd c.1 n5) (fun c => ?_)
      refine ph_if ph_gk (fun c => absurd c n5) (fun c => ?_)
      rw [dn_skip]
      exact ⟨rfl, frN_tr N1 (frX_N f2), by rw [f2 _ _ (by omega)]; exact V1, ht2, Or.inl ⟨_, eQ, l2⟩⟩
  · rintro e3 h3 ⟨rfl, N3, t3, ht3, c3⟩
    refine ⟨fun e4 h4 => e4 = [1000, j, 0] ∧ frN h h4 ∧ h4 1000 1 = 0 ∧ ((∃ z, gQ (X 2) (X 0 1) = .inr z ∧ fltM h4 z.1 z.2) ∨ (∃ c, gQ (X 2) (X 0 1) = .inl (25 + j, c) ∧ (h4 1000 5 = 0 ∧ h4 1000 6 = -1) ∧ cdM h4 c ∧ c.length ≤ 1600)), ?_, ?_⟩
    · rw [dn_if]
      simp -implicitDefEqProofs only [↓dn_den, ↓dn_loc, ↓dn_k, ↓dn_add, ↓dn_sub, ↓dn_mul, ↓dn_div, ↓dn_rem, ↓dn_bop, ↓dn_ladd, ↓dn_lsub, ↓dn_lmul, ↓dn_ldiv, ↓dn_lrem, ↓dn_land, ↓dn_l2i, ↓dn_neg, ↓dn_get, ↓dn_fix, ↓dn_ald, ↓dn_gld, ↓dn_yld, ↓dn_len, ↓dn_gln, ↓dn_cc, ↓dn_cb, ↓dn_and, ↓dn_or, ↓dn_not, ↓dn_cite, ↓dn_ec, ↓dn_ei, ↓dn_skip, ↓dn_seq, ↓dn_set, ↓dn_inc, ↓dn_putf, ↓dn_putz, ↓dn_ast, ↓dn_exp, ↓dn_if, ↓dn_ret, ↓dn_retz, ↓dn_retv, ↓dn_brk, ↓dn_cont, ↓dn_cs, ↓dn_sw, ↓dn_pop32, ↓dn_pop64, ↓dn_aop, ↓dn_call, ↓dn_max, ↓dn_min, ↓dn_acp, ↓dn_i2l, ↓dn_args0, ↓dn_args1, og_pad, og_ent, og_rlt, og_rle, og_rgt, og_rge, og_req, og_rne, og_padd, og_psub, og_pmul, List.getD_cons_zero, List.getD_cons_succ, List.set_cons_zero, List.set_cons_succ, List.length_cons, List.length_nil, List.cons_append, List.nil_append, List.replicate, List.append_nil, Nat.reduceAdd, Nat.reduceSub, Nat.reduceEqDiff, if_true, if_false, reduceIte, Int.reduceAdd, Int.reduceSub, Int.reduceMul, Int.reduceNeg, Int.reduceLT, Int.reduceLE, Int.cast_ofNat_Int, true_or, or_true, true_and, and_true, false_and, List.mem_cons, List.not_mem_nil, or_false, false_or, ne_eq]
      rcases c3 with ⟨z, eQ, l3⟩ | ⟨b, c, w, eR, r3, cd⟩
      · have n5 : ¬ h3 1000 5 = 0 := fun y => l3.2.2 (l3.1.symm.trans y)
        refine ⟨fun y => absurd y n5, fun _ => ?_⟩
        have r : frN h h3 ∧ h3 1000 1 = 0 ∧ ((∃ z, gQ (X 2) (X 0 1) = .inr z ∧ fltM h3 z.1 z.2) ∨ (∃ c, gQ (X 2) (X 0 1) = .inl (25 + j, c) ∧ (h3 1000 5 = 0 ∧ h3 1000 6 = -1) ∧ cdM h3 c ∧ c.length ≤ 1600)) := ⟨N3, t3, Or.inl ⟨z, eQ, l3⟩⟩
        first | exact ⟨rfl, r⟩ | exact r
      · have eQ : gQ (X 2) (X 0 1) = bnd (gR (X 2) (X 0 1) 13 (decide (wrd (X 2) (X 0 1) 0 ≤ 27)) (tE (X 2) (X 0 1) 0) []) (fun a c => if tS (X 2) (X 0 1) a < X 0 1 then .inr (1, tS (X 2) (X 0 1) a) else .inl (wrd (X 2) (X 0 1) 0, c)) := by unfold gQ; rw [if_pos (by omega)]
        rw [eR, bnd_l] at eQ
        have ad := adv_gR (B := X 2) (n := X 0 1) (pu := 13) (decide (wrd (X 2) (X 0 1) 0 ≤ 27)) (tE (X 2) (X 0 1) 0) [] (by omega) te
        rw [eR] at ad
        have ad2 : b ≤ X 0 1 := ad.2.1
        have ad3 : (c.length : Int) + tE (X 2) (X 0 1) 0 ≤ (([] : List Int).length : Int) + b := ad.2.2
        simp only [List.length_nil] at ad3
        refine ⟨fun _ => ?_, fun y => absurd r3.1.1 y⟩
        refine r_look ht3 r3 (fun h4 r4 v4 f4 => ?_)
        have b0 := r3.2.1
        have tsb := (tS_sp (X 2) (X 0 1) b).1
        have N4 : frN h h4 := frN_tr N3 (frX_N (frX_2 f4))
        have t4 : h4 1000 1 = 0 := by rw [f4 _ _ (by omega)]; exact t3
        by_cases lt : tS (X 2) (X 0 1) b < X 0 1
        · have hb := x1.2 (tS (X 2) (X 0 1) b) (by omega) lt
          rw [if_pos lt] at eQ
          rw [bt_in (by omega) lt, v4]
          refine ⟨fun _ => r_fail r4.1.1 (by decide) (fun h5 l5 f5 => ?_), fun y => by omega⟩
          have r : frN h h5 ∧ h5 1000 1 = 0 ∧ ((∃ z, gQ (X 2) (X 0 1) = .inr z ∧ fltM h5 z.1 z.2) ∨ (∃ c, gQ (X 2) (X 0 1) = .inl (25 + j, c) ∧ (h5 1000 5 = 0 ∧ h5 1000 6 = -1) ∧ cdM h5 c ∧ c.length ≤ 1600)) := ⟨frN_tr N4 (fun i k hp => f5 i k (by omega)), by rw [f5 _ _ (by omega)]; exact t4, Or.inl ⟨_, eQ, l5⟩⟩
          first | exact ⟨rfl, r⟩ | exact r
        · rw [if_neg lt, w] at eQ
          rw [bt_no (by omega)]
          refine ⟨fun y => absurd (by trivial) y, fun _ => ?_⟩
          have r : frN h h4 ∧ h4 1000 1 = 0 ∧ ((∃ z, gQ (X 2) (X 0 1) = .inr z ∧ fltM h4 z.1 z.2) ∨ (∃ c, gQ (X 2) (X 0 1) = .inl (25 + j, c) ∧ (h4 1000 5 = 0 ∧ h4 1000 6 = -1) ∧ cdM h4 c ∧ c.length ≤ 1600)) := ⟨N4, t4, Or.inr ⟨c, eQ, r4.1, cdM_fr cd (fun i k hi => f4 i k (by omega)), by omega⟩⟩
          first | exact ⟨rfl, r⟩ | exact r
    · rintro e4 h4 ⟨rfl, N4, t4, c4⟩
      simp -implicitDefEqProofs only [↓dn_den, ↓dn_loc, ↓dn_k, ↓dn_add, ↓dn_sub, ↓dn_mul, ↓dn_div, ↓dn_rem, ↓dn_bop, ↓dn_ladd, ↓dn_lsub, ↓dn_lmul, ↓dn_ldiv, ↓dn_lrem, ↓dn_land, ↓dn_l2i, ↓dn_neg, ↓dn_get, ↓dn_fix, ↓dn_ald, ↓dn_gld, ↓dn_yld, ↓dn_len, ↓dn_gln, ↓dn_cc, ↓dn_cb, ↓dn_and, ↓dn_not, ↓dn_cite, ↓dn_skip, ↓dn_seq, ↓dn_set, ↓dn_inc, ↓dn_putf, ↓dn_putz, ↓dn_ast, ↓dn_exp, ↓dn_ret, ↓dn_retz, ↓dn_retv, ↓dn_brk, ↓dn_cont, ↓dn_cs, ↓dn_sw, ↓dn_pop32, ↓dn_pop64, ↓dn_aop, ↓dn_call, ↓dn_max, ↓dn_min, ↓dn_acp, ↓dn_i2l, ↓dn_args0, ↓dn_args1, og_pad, og_ent, og_rlt, og_rle, og_rgt, og_rge, og_req, og_rne, og_padd, og_psub, og_pmul, List.getD_cons_zero, List.getD_cons_succ, List.set_cons_zero, List.set_cons_succ, List.length_cons, List.length_nil, List.cons_append, List.nil_append, List.replicate, List.append_nil, Nat.reduceAdd, Nat.reduceSub, Nat.reduceEqDiff, if_true, if_false, reduceIte, Int.reduceAdd, Int.reduceSub, Int.reduceMul, Int.reduceNeg, Int.reduceLT, Int.reduceLE, Int.cast_ofNat_Int, true_or, or_true, true_and, and_true, false_and, List.mem_cons, List.not_mem_nil, or_false, false_or, ne_eq]
      have e48 : og_up h4 1000 7 (h4 1000 5) 1000 6 = h4 1000 6 := og_up_k (by decide)
      rw [e48]
      have Z : ∀ i k, ¬ (i = 1000 ∧ (k = 7 ∨ k = 8)) → og_up (og_up h4 1000 7 (h4 1000 5)) 1000 8 (h4 1000 6) i k = h4 i k := fun i k hp => by
        unfold og_up
        rw [if_neg (by omega), if_neg (by omega)]
      have Z7 : og_up (og_up h4 1000 7 (h4 1000 5)) 1000 8 (h4 1000 6) 1000 7 = h4 1000 5 := by rw [og_up_k (by decide), og_up_eq]
      have Z8 : og_up (og_up h4 1000 7 (h4 1000 5)) 1000 8 (h4 1000 6) 1000 8 = h4 1000 6 := og_up_eq
      generalize og_up (og_up h4 1000 7 (h4 1000 5)) 1000 8 (h4 1000 6) = h5 at Z Z7 Z8
      have N5 : frN h h5 := frN_tr N4 (fun i k hp => Z i k (by omega))
      have t5 : h5 1000 1 = 0 := by rw [Z _ _ (by omega)]; exact t4
      rcases c4 with ⟨z, eQ, l4⟩ | ⟨c, eQ, z4, cd, cl⟩
      · refine ph_if ph_gk (fun _ => ?_) (fun y => absurd (show ¬ h5 1000 5 = 0 from fun q => l4.2.2 (l4.1.symm.trans ((Z _ _ (by omega)).symm.trans q))) y)
        simp -implicitDefEqProofs only [↓dn_den, ↓dn_loc, ↓dn_k, ↓dn_add, ↓dn_sub, ↓dn_mul, ↓dn_div, ↓dn_rem, ↓dn_bop, ↓dn_ladd, ↓dn_lsub, ↓dn_lmul, ↓dn_ldiv, ↓dn_lrem, ↓dn_land, ↓dn_l2i, ↓dn_neg, ↓dn_get, ↓dn_fix, ↓dn_ald, ↓dn_gld, ↓dn_yld, ↓dn_len, ↓dn_gln, ↓dn_cc, ↓dn_cb, ↓dn_and, ↓dn_or, ↓dn_not, ↓dn_cite, ↓dn_ec, ↓dn_ei, ↓dn_skip, ↓dn_seq, ↓dn_set, ↓dn_inc, ↓dn_putf, ↓dn_putz, ↓dn_ast, ↓dn_exp, ↓dn_if, ↓dn_ret, ↓dn_retz, ↓dn_retv, ↓dn_brk, ↓dn_cont, ↓dn_cs, ↓dn_sw, ↓dn_pop32, ↓dn_pop64, ↓dn_aop, ↓dn_call, ↓dn_max, ↓dn_min, ↓dn_acp, ↓dn_i2l, ↓dn_args0, ↓dn_args1, og_pad, og_ent, og_rlt, og_rle, og_rgt, og_rge, og_req, og_rne, og_padd, og_psub, og_pmul, List.getD_cons_zero, List.getD_cons_succ, List.set_cons_zero, List.set_cons_succ, List.length_cons, List.length_nil, List.cons_append, List.nil_append, List.replicate, List.append_nil, Nat.reduceAdd, Nat.reduceSub, Nat.reduceEqDiff, if_true, if_false, reduceIte, Int.reduceAdd, Int.reduceSub, Int.reduceMul, Int.reduceNeg, Int.reduceLT, Int.reduceLE, Int.cast_ofNat_Int, true_or, or_true, true_and, and_true, false_and, List.mem_cons, List.not_mem_nil, or_false, false_or, ne_eq]
        exact hK0 z eQ h5 (relM_ft ho hr N5 (Z7.trans l4.1) (Z8.trans l4.2.1) t5)
      · have r5 : relM q h5 M A P U (sFt X 0 (-1)) := relM_ft ho hr N5 (Z7.trans z4.1) (Z8.trans z4.2) t5
        have qi := gQ_in eQ
        obtain ⟨u, hw, hu⟩ := qi.2.2
        refine ph_if ph_gk (fun y => absurd (show h5 1000 5 = 0 from (Z _ _ (by omega)).trans z4.1) y) (fun _ => ?_)
        simp -implicitDefEqProofs only [↓dn_den, ↓dn_loc, ↓dn_k, ↓dn_add, ↓dn_sub, ↓dn_mul, ↓dn_div, ↓dn_rem, ↓dn_bop, ↓dn_ladd, ↓dn_lsub, ↓dn_lmul, ↓dn_ldiv, ↓dn_lrem, ↓dn_land, ↓dn_l2i, ↓dn_neg, ↓dn_get, ↓dn_fix, ↓dn_ald, ↓dn_gld, ↓dn_yld, ↓dn_len, ↓dn_gln, ↓dn_cc, ↓dn_cb, ↓dn_and, ↓dn_not, ↓dn_cite, ↓dn_skip, ↓dn_seq, ↓dn_set, ↓dn_inc, ↓dn_putf, ↓dn_putz, ↓dn_ast, ↓dn_exp, ↓dn_ret, ↓dn_retz, ↓dn_retv, ↓dn_brk, ↓dn_cont, ↓dn_cs, ↓dn_sw, ↓dn_pop32, ↓dn_pop64, ↓dn_aop, ↓dn_call, ↓dn_max, ↓dn_min, ↓dn_acp, ↓dn_i2l, ↓dn_args0, ↓dn_args1, og_pad, og_ent, og_rlt, og_rle, og_rgt, og_rge, og_req, og_rne, og_padd, og_psub, og_pmul, List.getD_cons_zero, List.getD_cons_succ, List.set_cons_zero, List.set_cons_succ, List.length_cons, List.length_nil, List.cons_append, List.nil_append, List.replicate, List.append_nil, Nat.reduceAdd, Nat.reduceSub, Nat.reduceEqDiff, if_true, if_false, reduceIte, Int.reduceAdd, Int.reduceSub, Int.reduceMul, Int.reduceNeg, Int.reduceLT, Int.reduceLE, Int.cast_ofNat_Int, true_or, or_true, true_and, and_true, false_and, List.mem_cons, List.not_mem_nil, or_false, false_or, ne_eq]
        refine pe_ei pc_cc (fun x hx0 => ?_)
        have hx0 : (x = -1 ∧ j < 2) ∨ (x = 0 ∧ ¬ j < 2) := hx0
        have ex : x = qFo (25 + j) c A 0 := by
          unfold qFo
          rcases hx0 with ⟨a, b⟩ | ⟨a, b⟩
          · rw [if_pos (by omega)]; exact a
          · rw [if_neg (by omega)]; exact a
        have Y : ∀ i k, ¬ (i = 1000 ∧ (k = 98 ∨ k = 99)) → og_up (og_up h5 1000 98 x) 1000 99 1 i k = h5 i k := fun i k hp => by
          unfold og_up
          rw [if_neg (by omega), if_neg (by omega)]
        have Y8 : og_up (og_up h5 1000 98 x) 1000 99 1 1000 98 = x := by rw [og_up_k (by decide), og_up_eq]
        have Y9 : og_up (og_up h5 1000 98 x) 1000 99 1 1000 99 = 1 := og_up_eq
        generalize og_up (og_up h5 1000 98 x) 1000 99 1 = h6' at Y Y8 Y9
        have main : og_cut (og_seq (og_set 2 (og_k 0)) (og_while (og_cc og_rlt (og_loc 2) (og_call m_Model_personMany [og_loc 0])) (og_seq (og_putf 51 (og_loc 0) (og_loc 2)) (og_exp (og_call m_Model_qTakes [og_loc 0, og_loc 1, og_call m_Model_qTold [og_loc 0, og_loc 2], og_loc 2]))) (og_inc 2 1))) (og_ret (og_get 98 (og_loc 0))) [1000, j, 0] h6' (fun _ h' => (1 : Nat) = 2 ∧ K 0 h') K (fun _ _ => False) (fun _ _ => False) := by
          refine ⟨fun e7 h7 => (∃ y, e7 = [1000, j, y]) ∧ h7 1000 98 = qFo (25 + j) c A (sNp A) ∧ (∀ i k, i ≠ 1072 → ¬ (i = 1000 ∧ (k = 51 ∨ k = 97 ∨ k = 98 ∨ k = 99)) → h7 i k = h5 i k), ?_, ?_⟩
          · simp -implicitDefEqProofs only [↓dn_den, ↓dn_loc, ↓dn_k, ↓dn_add, ↓dn_sub, ↓dn_mul, ↓dn_div, ↓dn_rem, ↓dn_bop, ↓dn_ladd, ↓dn_lsub, ↓dn_lmul, ↓dn_ldiv, ↓dn_lrem, ↓dn_land, ↓dn_l2i, ↓dn_neg, ↓dn_get, ↓dn_fix, ↓dn_ald, ↓dn_gld, ↓dn_yld, ↓dn_len, ↓dn_gln, ↓dn_cc, ↓dn_cb, ↓dn_and, ↓dn_or, ↓dn_not, ↓dn_cite, ↓dn_ec, ↓dn_ei, ↓dn_skip, ↓dn_seq, ↓dn_set, ↓dn_inc, ↓dn_putf, ↓dn_putz, ↓dn_ast, ↓dn_exp, ↓dn_if, ↓dn_ret, ↓dn_retz, ↓dn_retv, ↓dn_brk, ↓dn_cont, ↓dn_cs, ↓dn_sw, ↓dn_pop32, ↓dn_pop64, ↓dn_aop, ↓dn_call, ↓dn_max, ↓dn_min, ↓dn_acp, ↓dn_i2l, ↓dn_args0, ↓dn_args1, og_pad, og_ent, og_rlt, og_rle, og_rgt, og_rge, og_req, og_rne, og_padd, og_psub, og_pmul, List.getD_cons_zero, List.getD_cons_succ, List.set_cons_zero, List.set_cons_succ, List.length_cons, List.length_nil, List.cons_append, List.nil_append, List.replicate, List.append_nil, Nat.reduceAdd, Nat.reduceSub, Nat.reduceEqDiff, if_true, if_false, reduceIte, Int.reduceAdd, Int.reduceSub, Int.reduceMul, Int.reduceNeg, Int.reduceLT, Int.reduceLE, Int.cast_ofNat_Int, true_or, or_true, true_and, and_true, false_and, List.mem_cons, List.not_mem_nil, or_false, false_or, ne_eq]
            refine og_loop (sNp A) (fun i e7 h7 => e7 = [1000, j, (i : Int)] ∧ h7 1000 98 = qFo (25 + j) c A i ∧ (((i : Int) = 0 ∧ h7 1000 99 = 1) ∨ (¬ (i : Int) = 0 ∧ h7 1000 99 = 0)) ∧ (∀ i k, i ≠ 1072 → ¬ (i = 1000 ∧ (k = 51 ∨ k = 97 ∨ k = 98 ∨ k = 99)) → h7 i k = h5 i k)) ⟨rfl, Y8.trans ex, Or.inl ⟨rfl, Y9⟩, fun i k _ hp => Y i k (by omega)⟩ ?_
            rintro i e7 h7 hi ⟨rfl, a7, b7, f7⟩
            simp -implicitDefEqProofs only [↓dn_den, ↓dn_loc, ↓dn_k, ↓dn_add, ↓dn_sub, ↓dn_mul, ↓dn_div, ↓dn_rem, ↓dn_bop, ↓dn_ladd, ↓dn_lsub, ↓dn_lmul, ↓dn_ldiv, ↓dn_lrem, ↓dn_land, ↓dn_l2i, ↓dn_neg, ↓dn_get, ↓dn_fix, ↓dn_ald, ↓dn_gld, ↓dn_yld, ↓dn_len, ↓dn_gln, ↓dn_cc, ↓dn_cb, ↓dn_and, ↓dn_or, ↓dn_not, ↓dn_cite, ↓dn_ec, ↓dn_ei, ↓dn_skip, ↓dn_seq, ↓dn_set, ↓dn_inc, ↓dn_putf, ↓dn_putz, ↓dn_ast, ↓dn_exp, ↓dn_if, ↓dn_ret, ↓dn_retz, ↓dn_retv, ↓dn_brk, ↓dn_cont, ↓dn_cs, ↓dn_sw, ↓dn_pop32, ↓dn_pop64, ↓dn_aop, ↓dn_call, ↓dn_max, ↓dn_min, ↓dn_acp, ↓dn_i2l, ↓dn_args0, ↓dn_args1, og_pad, og_ent, og_rlt, og_rle, og_rgt, og_rge, og_req, og_rne, og_padd, og_psub, og_pmul, List.getD_cons_zero, List.getD_cons_succ, List.set_cons_zero, List.set_cons_succ, List.length_cons, List.length_nil, List.cons_append, List.nil_append, List.replicate, List.append_nil, Nat.reduceAdd, Nat.reduceSub, Nat.reduceEqDiff, if_true, if_false, reduceIte, Int.reduceAdd, Int.reduceSub, Int.reduceMul, Int.reduceNeg, Int.reduceLT, Int.reduceLE, Int.cast_ofNat_Int, true_or, or_true, true_and, and_true, false_and, List.mem_cons, List.not_mem_nil, or_false, false_or, ne_eq, og_i32]
            have m7 : isM h7 A := isM_fr2 ho r5.1.1.1 (fun i k hi => f7 i k (by omega) (by omega)) (fun k _ _ => f7 _ _ (by omega) (by omega))
            unfold sNp at hi
            refine r_personMany m7 ⟨fun hlt => ?_, fun hge => ?_⟩
            · have ov : okV A (i : Int) := ⟨ho, by omega, hlt⟩
              have u7 : ∀ x k, ¬ (x = 1000 ∧ k = 51) → og_up h7 1000 51 (i : Int) x k = h7 x k := fun x k hp => by unfold og_up; exact if_neg hp
              have u51 : og_up h7 1000 51 (i : Int) 1000 51 = i := og_up_eq
              generalize og_up h7 1000 51 (i : Int) = h8 at u7 u51
              have m8 : isM h8 A := isM_fr2 ho m7 (fun i k hi => u7 i k (by omega)) (fun k _ _ => u7 _ _ (by omega))
              have c8 : cdM h8 c := cdM_fr cd (fun i k hi => by rw [u7 i k (by omega), f7 i k (by omega) (by omega), Z i k (by omega)])
              refine r_qTold m8 ov u51 c8 cl ⟨fun z => ?_, fun z => ?_⟩ hw (fun h9 f9 => ?_)
              · have := (qi.2.1 _ z).1 rfl
                omega
              · have := (qi.2.1 _ z).2.1 rfl
                omega
              · have rg := qFo_rg (k := 25 + j) ho hw i (by omega)
                have ty := sVal_ty (A := A) (p := (i : Int)) (cnt := 0) ov (by decide) hw
                have e98 : h9 1000 98 = qFo (25 + j) c A i := by rw [f9 _ _ (by decide) (fun _ => by decide), u7 _ _ (by omega)]; exact a7
                have e99 : h9 1000 99 = h7 1000 99 := by rw [f9 _ _ (by decide) (fun _ => by decide), u7 _ _ (by omega)]
                refine r_qTakes hj (fun z => ?_) ty.1 (by rw [e98]; omega) (by omega) (by rw [e99]; exact b7) (fun h10 v8 v9 f10 => ⟨by omega, og_nx_mk (by unfold sNp; omega) ⟨by simp, ?_, Or.inr ⟨by omega, v9⟩, fun x k p1 p2 => ?_⟩⟩)
                · have := ty.2 (hu (by omega))
                  omega
                · rw [v8, e98]; rfl
                · rw [f10 x k (by omega), f9 x k p1 (fun z => by omega), u7 x k (by omega)]
                  exact f7 x k p1 p2
            · have ei : i = sNp A := by unfold sNp; omega
              subst ei
              exact ⟨⟨_, rfl⟩, a7, f7⟩
          · rintro e7 h7 ⟨⟨y, rfl⟩, a7, f7⟩
            simp -implicitDefEqProofs only [↓dn_den, ↓dn_loc, ↓dn_k, ↓dn_add, ↓dn_sub, ↓dn_mul, ↓dn_div, ↓dn_rem, ↓dn_bop, ↓dn_ladd, ↓dn_lsub, ↓dn_lmul, ↓dn_ldiv, ↓dn_lrem, ↓dn_land, ↓dn_l2i, ↓dn_neg, ↓dn_get, ↓dn_fix, ↓dn_ald, ↓dn_gld, ↓dn_yld, ↓dn_len, ↓dn_gln, ↓dn_cc, ↓dn_cb, ↓dn_and, ↓dn_or, ↓dn_not, ↓dn_cite, ↓dn_ec, ↓dn_ei, ↓dn_skip, ↓dn_seq, ↓dn_set, ↓dn_inc, ↓dn_putf, ↓dn_putz, ↓dn_ast, ↓dn_exp, ↓dn_if, ↓dn_ret, ↓dn_retz, ↓dn_retv, ↓dn_brk, ↓dn_cont, ↓dn_cs, ↓dn_sw, ↓dn_pop32, ↓dn_pop64, ↓dn_aop, ↓dn_call, ↓dn_max, ↓dn_min, ↓dn_acp, ↓dn_i2l, ↓dn_args0, ↓dn_args1, og_pad, og_ent, og_rlt, og_rle, og_rgt, og_rge, og_req, og_rne, og_padd, og_psub, og_pmul, List.getD_cons_zero, List.getD_cons_succ, List.set_cons_zero, List.set_cons_succ, List.length_cons, List.length_nil, List.cons_append, List.nil_append, List.replicate, List.append_nil, Nat.reduceAdd, Nat.reduceSub, Nat.reduceEqDiff, if_true, if_false, reduceIte, Int.reduceAdd, Int.reduceSub, Int.reduceMul, Int.reduceNeg, Int.reduceLT, Int.reduceLE, Int.cast_ofNat_Int, true_or, or_true, true_and, and_true, false_and, List.mem_cons, List.not_mem_nil, or_false, false_or, ne_eq]
            rw [a7]
            refine hK1 _ _ eQ h7 (relM_ft ho hr (frN_tr N5 (fun i k hp => f7 i k (by omega) (by omega))) ?_ ?_ ?_)
            · rw [f7 _ _ (by decide) (by omega), Z7]; exact z4.1
            · rw [f7 _ _ (by decide) (by omega), Z8]; exact z4.2
            · rw [f7 _ _ (by decide) (by omega)]; exact t5
        first | exact main | exact ⟨by decide, main⟩ | exact ⟨Or.inr rfl, main⟩
end
end
