section
-- months with draws: the reference
section
variable {q h h' : Hp} {A B : Yd} {P : Pr} {U : List Yd} {X : Yd} {n M : Int} {K : Int → Hp → Prop}
theorem relM_luck {v : Int} (ho : okY A) (hr : relM q h M A P U X) : relM q (og_up h 1000 67 v) M A P U (sUp X 0 2 v) := by
  obtain ⟨⟨y, z, t⟩, p, r, f⟩ := hr
  have hf : ∀ i k, (i ≠ 1000 ∨ k ≠ 67) → og_up h 1000 67 v i k = h i k := fun i k hi => by unfold og_up; exact if_neg (by omega)
  have z' : og_up h 1000 67 v 1000 53 = 0 := (hf _ _ (by decide)).trans z
  refine ⟨⟨isN_fr y ho z z' (fun i k hi => hf i k (by omega)), z', by unfold tmB; rw [hf _ _ (by decide)]; exact t⟩, pastM_fr p (fun i k hi => hf i k (by omega)), ?_, fun i k hi => (hf i k (by omega)).trans (f i k hi)⟩
  refine restM_new r (fun i k hi => hf i k (by omega)) (fun j => sUp_c (by decide)) ?_ ?_ ?_ ?_ ?_
  · simp (disch := decide) only [sUp_row, sUp_c, sUp_k, sUp_eq]; exact ⟨by rw [hf _ _ (by omega)]; exact r.2.1.1, fun j a b => by rw [hf _ _ (by omega)]; exact r.2.1.2 j a b⟩
  · simp (disch := decide) only [sUp_row, sUp_c, sUp_k, sUp_eq]; exact ⟨by rw [hf _ _ (by omega)]; exact r.2.2.1.1, fun j a b => by rw [hf _ _ (by omega)]; exact r.2.2.1.2 j a b⟩
  · intro k a b; rw [sUp_c (by decide), hf _ _ (by omega)]; exact r.2.2.2.1 k a b
  · simp (disch := decide) only [sUp_row, sUp_c, sUp_k, sUp_eq]; rw [og_up_eq, hf _ _ (by omega), hf _ _ (by omega)]; exact ⟨rfl, r.2.2.2.2.1.2.1, r.2.2.2.2.1.2.2⟩
  · simp (disch := decide) only [sUp_row, sUp_c, sUp_k, sUp_eq]; exact ⟨by rw [hf _ _ (by omega)]; exact r.2.2.2.2.2.1.1, fun j a b => by rw [hf _ _ (by omega)]; exact r.2.2.2.2.2.1.2 j a b⟩
def frL (h h' : Hp) : Prop := ∀ i k, ¬ (i = 1037 ∨ i = 1072 ∨ (i = 1000 ∧ (k = 48 ∨ k = 51 ∨ k = 52 ∨ k = 54 ∨ k = 67 ∨ k = 97))) → h' i k = h i k
theorem frL_tr {h h1 h2 : Hp} (a : frL h h1) (b : frL h1 h2) : frL h h2 := fun i k p => (b i k p).trans (a i k p)
theorem frL_E {h h' : Hp} (a : frE h h') : frL h h' := fun i k p => a i k (by omega) (fun z => by omega)
theorem frL_M {h h' : Hp} (a : frM h h') : frL h h' := fun i k p => a.1 i k (by omega) (by omega) (fun z => by omega)
theorem m_chance {m : Int} (hn : n ≤ 1000000) (hM : M ≤ 10000000) (hr : relM q h M A P U X) (hx : okX n A P U X) (hK0 : ¬ monthsOK A m → ∀ h', relM q h' M A P U (sRf X 3) → K (-1) h') (hK1 : monthsOK A m → ∀ h', relM q h' (M + 2000) (sChM P (A, X 0 2, 0) m.toNat).1 P (sKp U A) (sUp X 0 2 (sChM P (A, X 0 2, 0) m.toNat).2.1) → K (sChM P (A, X 0 2, 0) m.toNat).2.2 h') : m_Model_chance [1000, m] h K := by
  have ho := hx.1.1
  have h6 := ho.1
  have hnp : sNp A = (A 0 1).toNat := rfl
  have hm0 := hx.1.2.2
  have hP := hx.2.1
  have hm := hr.1.1.1
  have h53 := hr.1.2.1
  have hb := hr.1.2.2
  have hlk := hr.2.2.1.2.2.2.2.1.1
  have hI0 : chI A (A 0 2) 0 (A, X 0 2, 0) := ⟨ho, hx.1.2.1, ⟨rfl, rfl, rfl⟩, fun _ => ⟨rfl, rfl⟩, hx.2.2.2.2.2.2.1, Int.le_refl 0, Int.le_refl 0⟩
  unfold m_Model_chance
  simp -implicitDefEqProofs only [↓dn_den, ↓dn_loc, ↓dn_k, ↓dn_add, ↓dn_sub, ↓dn_mul, ↓dn_div, ↓dn_rem, ↓dn_bop, ↓dn_ladd, ↓dn_lsub, ↓dn_lmul, ↓dn_ldiv, ↓dn_lrem, ↓dn_land, ↓dn_l2i, ↓dn_neg, ↓dn_get, ↓dn_fix, ↓dn_ald, ↓dn_gld, ↓dn_yld, ↓dn_len, ↓dn_gln, ↓dn_cc, ↓dn_cb, ↓dn_and, ↓dn_or, ↓dn_not, ↓dn_cite, ↓dn_ec, ↓dn_ei, ↓dn_skip, ↓dn_seq, ↓dn_set, ↓dn_inc, ↓dn_putf, ↓dn_putz, ↓dn_ast, ↓dn_exp, ↓dn_if, ↓dn_ret, ↓dn_retz, ↓dn_retv, ↓dn_brk, ↓dn_cont, ↓dn_cs, ↓dn_sw, ↓dn_pop32, ↓dn_pop64, ↓dn_aop, ↓dn_call, ↓dn_max, ↓dn_min, ↓dn_acp, ↓dn_i2l, ↓dn_args0, ↓dn_args1, og_pad, og_ent, og_rlt, og_rle, og_rgt, og_rge, og_req, og_rne, og_padd, og_psub, og_pmul, List.getD_cons_zero, List.getD_cons_succ, List.set_cons_zero, List.set_cons_succ, List.length_cons, List.length_nil, List.cons_append, List.nil_append, List.replicate, List.append_nil, Nat.reduceAdd, Nat.reduceSub, Nat.reduceEqDiff, if_true, if_false, reduceIte, Int.reduceAdd, Int.reduceSub, Int.reduceMul, Int.reduceNeg, Int.reduceLT, Int.reduceLE, Int.cast_ofNat_Int, true_or, or_true, true_and, and_true, false_and, List.mem_cons, List.not_mem_nil, or_false, false_or, ne_eq, og_i32]
  refine r_isAhead hm (by omega) (by decide) (by decide) ⟨fun a => ?_, fun a => m_refuses (by decide) hn hr hx (hK0 (iteP0 a))⟩
  have hmm := iteP1 a
  refine m_keeps hr hx (fun h1 hN1 hp1 hf1 => ?_)
  have h531 : h1 1000 53 = 0 := by rw [hf1 _ _ (by omega)]; exact h53
  have hR1 : hasM h1 P := hasM_fr hr.2.2.1.1 (fun i k hi => hf1 i k (by omega))
  refine ⟨fun e2 h2 => (∃ c3 c4, e2 = [1000, m, (sChM P (A, X 0 2, 0) m.toNat).2.2, c3, c4]) ∧ isN h2 (sChM P (A, X 0 2, 0) m.toNat).1 ∧ h2 1000 67 = (sChM P (A, X 0 2, 0) m.toNat).2.1 ∧ frL h1 h2 ∧ tmB (M + 2000) h2, ?_, ?_⟩
  · simp -implicitDefEqProofs only [↓dn_den, ↓dn_loc, ↓dn_k, ↓dn_add, ↓dn_sub, ↓dn_mul, ↓dn_div, ↓dn_rem, ↓dn_bop, ↓dn_ladd, ↓dn_lsub, ↓dn_lmul, ↓dn_ldiv, ↓dn_lrem, ↓dn_land, ↓dn_l2i, ↓dn_neg, ↓dn_get, ↓dn_fix, ↓dn_ald, ↓dn_gld, ↓dn_yld, ↓dn_len, ↓dn_gln, ↓dn_cc, ↓dn_cb, ↓dn_and, ↓dn_or, ↓dn_not, ↓dn_cite, ↓dn_ec, ↓dn_ei, ↓dn_skip, ↓dn_seq, ↓dn_set, ↓dn_inc, ↓dn_putf, ↓dn_putz, ↓dn_ast, ↓dn_exp, ↓dn_if, ↓dn_ret, ↓dn_retz, ↓dn_retv, ↓dn_brk, ↓dn_cont, ↓dn_cs, ↓dn_sw, ↓dn_pop32, ↓dn_pop64, ↓dn_aop, ↓dn_call, ↓dn_max, ↓dn_min, ↓dn_acp, ↓dn_i2l, ↓dn_args0, ↓dn_args1, og_pad, og_ent, og_rlt, og_rle, og_rgt, og_rge, og_req, og_rne, og_padd, og_psub, og_pmul, List.getD_cons_zero, List.getD_cons_succ, List.set_cons_zero, List.set_cons_succ, List.length_cons, List.length_nil, List.cons_append, List.nil_append, List.replicate, List.append_nil, Nat.reduceAdd, Nat.reduceSub, Nat.reduceEqDiff, if_true, if_false, reduceIte, Int.reduceAdd, Int.reduceSub, Int.reduceMul, Int.reduceNeg, Int.reduceLT, Int.reduceLE, Int.cast_ofNat_Int, true_or, or_true, true_and, and_true, false_and, List.mem_cons, List.not_mem_nil, or_false, false_or, ne_eq]
    refine og_loop m.toNat (fun i e2 h2 => (∃ c4, e2 = [1000, m, (sChM P (A, X 0 2, 0) i).2.2, (i : Int), c4]) ∧ isN h2 (sChM P (A, X 0 2, 0) i).1 ∧ h2 1000 67 = (sChM P (A, X 0 2, 0) i).2.1 ∧ frL h1 h2 ∧ tmB (M + 6 * i) h2) ⟨⟨0, rfl⟩, hN1, by rw [hf1 _ _ (by omega)]; exact hlk, fun _ _ _ => rfl, by unfold tmB; rw [hf1 _ _ (by omega)]; exact ⟨hb.1, by have := hb.2; omega⟩⟩ ?_
    rintro i e2 h2 hi ⟨⟨c4, rfl⟩, hN2, hl2, hL2, hb2⟩
    simp -implicitDefEqProofs only [↓dn_den, ↓dn_loc, ↓dn_k, ↓dn_add, ↓dn_sub, ↓dn_mul, ↓dn_div, ↓dn_rem, ↓dn_bop, ↓dn_ladd, ↓dn_lsub, ↓dn_lmul, ↓dn_ldiv, ↓dn_lrem, ↓dn_land, ↓dn_l2i, ↓dn_neg, ↓dn_get, ↓dn_fix, ↓dn_ald, ↓dn_gld, ↓dn_yld, ↓dn_len, ↓dn_gln, ↓dn_cc, ↓dn_cb, ↓dn_and, ↓dn_or, ↓dn_not, ↓dn_cite, ↓dn_ec, ↓dn_ei, ↓dn_skip, ↓dn_seq, ↓dn_set, ↓dn_inc, ↓dn_putf, ↓dn_putz, ↓dn_ast, ↓dn_exp, ↓dn_if, ↓dn_ret, ↓dn_retz, ↓dn_retv, ↓dn_brk, ↓dn_cont, ↓dn_cs, ↓dn_sw, ↓dn_pop32, ↓dn_pop64, ↓dn_aop, ↓dn_call, ↓dn_max, ↓dn_min, ↓dn_acp, ↓dn_i2l, ↓dn_args0, ↓dn_args1, og_pad, og_ent, og_rlt, og_rle, og_rgt, og_rge, og_req, og_rne, og_padd, og_psub, og_pmul, List.getD_cons_zero, List.getD_cons_succ, List.set_cons_zero, List.set_cons_succ, List.length_cons, List.length_nil, List.cons_append, List.nil_append, List.replicate, List.append_nil, Nat.reduceAdd, Nat.reduceSub, Nat.reduceEqDiff, if_true, if_false, reduceIte, Int.reduceAdd, Int.reduceSub, Int.reduceMul, Int.reduceNeg, Int.reduceLT, Int.reduceLE, Int.cast_ofNat_Int, true_or, or_true, true_and, and_true, false_and, List.mem_cons, List.not_mem_nil, or_false, false_or, ne_eq, og_i32]
    refine ⟨fun hlt => ?_, fun hge => ?_⟩
    · have hI := chI_M (P := P) ho rfl hI0 i (by omega)
      have hsx := sChM_s P (A, X 0 2, 0) i
      dsimp only at hsx
      generalize sChM P (A, X 0 2, 0) i = s at *
      refine ⟨fun e3 h3 => (∃ c4, e3 = [1000, m, (sChP P s (sNp A)).2.2, (i : Int), c4]) ∧ isN h3 (sChP P s (sNp A)).1 ∧ h3 1000 67 = (sChP P s (sNp A)).2.1 ∧ frL h1 h3 ∧ tmB (M + 6 * i) h3, ?_, ?_⟩
      · simp -implicitDefEqProofs only [↓dn_den, ↓dn_loc, ↓dn_k, ↓dn_add, ↓dn_sub, ↓dn_mul, ↓dn_div, ↓dn_rem, ↓dn_bop, ↓dn_ladd, ↓dn_lsub, ↓dn_lmul, ↓dn_ldiv, ↓dn_lrem, ↓dn_land, ↓dn_l2i, ↓dn_neg, ↓dn_get, ↓dn_fix, ↓dn_ald, ↓dn_gld, ↓dn_yld, ↓dn_len, ↓dn_gln, ↓dn_cc, ↓dn_cb, ↓dn_and, ↓dn_or, ↓dn_not, ↓dn_cite, ↓dn_ec, ↓dn_ei, ↓dn_skip, ↓dn_seq, ↓dn_set, ↓dn_inc, ↓dn_putf, ↓dn_putz, ↓dn_ast, ↓dn_exp, ↓dn_if, ↓dn_ret, ↓dn_retz, ↓dn_retv, ↓dn_brk, ↓dn_cont, ↓dn_cs, ↓dn_sw, ↓dn_pop32, ↓dn_pop64, ↓dn_aop, ↓dn_call, ↓dn_max, ↓dn_min, ↓dn_acp, ↓dn_i2l, ↓dn_args0, ↓dn_args1, og_pad, og_ent, og_rlt, og_rle, og_rgt, og_rge, og_req, og_rne, og_padd, og_psub, og_pmul, List.getD_cons_zero, List.getD_cons_succ, List.set_cons_zero, List.set_cons_succ, List.length_cons, List.length_nil, List.cons_append, List.nil_append, List.replicate, List.append_nil, Nat.reduceAdd, Nat.reduceSub, Nat.reduceEqDiff, if_true, if_false, reduceIte, Int.reduceAdd, Int.reduceSub, Int.reduceMul, Int.reduceNeg, Int.reduceLT, Int.reduceLE, Int.cast_ofNat_Int, true_or, or_true, true_and, and_true, false_and, List.mem_cons, List.not_mem_nil, or_false, false_or, ne_eq]
        refine og_loop (sNp A) (fun p e3 h3 => e3 = [1000, m, (sChP P s p).2.2, (i : Int), (p : Int)] ∧ isN h3 (sChP P s p).1 ∧ h3 1000 67 = (sChP P s p).2.1 ∧ frL h1 h3 ∧ tmB (M + 6 * i) h3) ⟨rfl, hN2, hl2, hL2, hb2⟩ ?_
        rintro p e3 h3 hp ⟨rfl, hN3, hl3, hL3, hb3⟩
        simp -implicitDefEqProofs only [↓dn_den, ↓dn_loc, ↓dn_k, ↓dn_add, ↓dn_sub, ↓dn_mul, ↓dn_div, ↓dn_rem, ↓dn_bop, ↓dn_ladd, ↓dn_lsub, ↓dn_lmul, ↓dn_ldiv, ↓dn_lrem, ↓dn_land, ↓dn_l2i, ↓dn_neg, ↓dn_get, ↓dn_fix, ↓dn_ald, ↓dn_gld, ↓dn_yld, ↓dn_len, ↓dn_gln, ↓dn_cc, ↓dn_cb, ↓dn_and, ↓dn_or, ↓dn_not, ↓dn_cite, ↓dn_ec, ↓dn_ei, ↓dn_skip, ↓dn_seq, ↓dn_set, ↓dn_inc, ↓dn_putf, ↓dn_putz, ↓dn_ast, ↓dn_exp, ↓dn_if, ↓dn_ret, ↓dn_retz, ↓dn_retv, ↓dn_brk, ↓dn_cont, ↓dn_cs, ↓dn_sw, ↓dn_pop32, ↓dn_pop64, ↓dn_aop, ↓dn_call, ↓dn_max, ↓dn_min, ↓dn_acp, ↓dn_i2l, ↓dn_args0, ↓dn_args1, og_pad, og_ent, og_rlt, og_rle, og_rgt, og_rge, og_req, og_rne, og_padd, og_psub, og_pmul, List.getD_cons_zero, List.getD_cons_succ, List.set_cons_zero, List.set_cons_succ, List.length_cons, List.length_nil, List.cons_append, List.nil_append, List.replicate, List.append_nil, Nat.reduceAdd, Nat.reduceSub, Nat.reduceEqDiff, if_true, if_false, reduceIte, Int.reduceAdd, Int.reduceSub, Int.reduceMul, Int.reduceNeg, Int.reduceLT, Int.reduceLE, Int.cast_ofNat_Int, true_or, or_true, true_and, and_true, false_and, List.mem_cons, List.not_mem_nil, or_false, false_or, ne_eq, og_i32]
        obtain ⟨o3, k3, ⟨c0, c1, c2⟩, e3, l3, d3⟩ := chI_P (P := P) hI p (by omega)
        have hsp := sChP_s P s p
        refine r_personMany hN3.1 ?_
        rw [c1]
        refine ⟨fun hlt2 => ?_, fun hge2 => ?_⟩
        · generalize sChP P s p = t at *
          refine r_isAlive hN3.1 o3 (by omega) (by omega) ⟨fun a1 => ?_, fun a1 => ?_⟩
          · have hlv := ite10 a1
            refine r_drawOf hl3 l3 ?_
            have hN4 : isN (og_up h3 1000 67 (drw t.2.1)) t.1 := isN_O hN3 (by decide)
            have hL4 : frL h1 (og_up h3 1000 67 (drw t.2.1)) := fun j k hj => by
              have : og_up h3 1000 67 (drw t.2.1) j k = h3 j k := by unfold og_up; exact if_neg (by omega)
              rw [this]; exact hL3 j k hj
            have hR4 : hasM (og_up h3 1000 67 (drw t.2.1)) P := hasM_fr hR1 (fun j k hj => hL4 j k (by omega))
            refine r_diesOf hR4 hP hN4.1 ⟨o3, by omega, by omega⟩ (fun h5 hE5 => ?_)
            have hN5 := isN_E hN4 hE5
            have hL5 := frL_tr hL4 (frL_E hE5)
            have hl5 : h5 1000 67 = drw t.2.1 := by rw [hE5 _ _ (by decide) (fun _ => by decide), og_up_eq]
            have hb5 : tmB (M + 6 * i) h5 := by unfold tmB; rw [hE5 _ _ (by decide) (fun _ => by decide), og_up_k (by decide)]; exact hb3
            refine ⟨fun hge3 => ?_, fun hlt3 => ?_⟩
            · have e1 : sCh1 P t p = (t.1, drw t.2.1, t.2.2) := by unfold sCh1; rw [if_pos hlv, if_neg (by omega)]
              refine ⟨by omega, og_nx_mk (by omega) ?_⟩
              rw [hsp, e1]
              exact ⟨by simp, hN5, hl5, hL5, hb5⟩
            · have e1 : sCh1 P t p = (sBury t.1 p (sNext t.1 p (sNg t.1)) 2, drw t.2.1, t.2.2 + 1) := by unfold sCh1; rw [if_pos hlv, if_pos (by omega)]
              have rg := sNext_rg t.1 p (sNg t.1)
              have hng : sNg t.1 = (t.1 0 0).toNat := rfl
              refine r_nextFor hN5.1 o3 (by omega) (by omega) ?_
              refine r_goesInto hN5 o3 k3 (by omega) (by omega) hlv (by omega) (fun h6' hN6 hF6 hf6 => ?_)
              repeat (refine And.intro (by omega) ?_)
              refine og_nx_mk (by omega) ?_
              rw [hsp, e1]
              exact ⟨by simp, hN6, by rw [hf6 _ _ (by decide)]; exact hl5, frL_tr hL5 (frL_M hF6), by unfold tmB; rw [hf6 _ _ (by decide)]; exact hb5⟩
          · have hlv := ite00 a1
            have e1 : sCh1 P t p = t := by unfold sCh1; rw [if_neg (by rw [hlv]; decide)]
            refine ⟨by omega, og_nx_mk (by omega) ?_⟩
            rw [hsp, e1]
            exact ⟨by simp, hN3, hl3, hL3, hb3⟩
        · have e : p = sNp A := by omega
          subst e
          exact ⟨⟨_, rfl⟩, hN3, hl3, hL3, hb3⟩
      · rintro e3 h3 ⟨⟨c4', rfl⟩, hN3, hl3, hL3, hb3⟩
        simp -implicitDefEqProofs only [↓dn_den, ↓dn_loc, ↓dn_k, ↓dn_add, ↓dn_sub, ↓dn_mul, ↓dn_div, ↓dn_rem, ↓dn_bop, ↓dn_ladd, ↓dn_lsub, ↓dn_lmul, ↓dn_ldiv, ↓dn_lrem, ↓dn_land, ↓dn_l2i, ↓dn_neg, ↓dn_get, ↓dn_fix, ↓dn_ald, ↓dn_gld, ↓dn_yld, ↓dn_len, ↓dn_gln, ↓dn_cc, ↓dn_cb, ↓dn_and, ↓dn_or, ↓dn_not, ↓dn_cite, ↓dn_ec, ↓dn_ei, ↓dn_skip, ↓dn_seq, ↓dn_set, ↓dn_inc, ↓dn_putf, ↓dn_putz, ↓dn_ast, ↓dn_exp, ↓dn_if, ↓dn_ret, ↓dn_retz, ↓dn_retv, ↓dn_brk, ↓dn_cont, ↓dn_cs, ↓dn_sw, ↓dn_pop32, ↓dn_pop64, ↓dn_aop, ↓dn_call, ↓dn_max, ↓dn_min, ↓dn_acp, ↓dn_i2l, ↓dn_args0, ↓dn_args1, og_pad, og_ent, og_rlt, og_rle, og_rgt, og_rge, og_req, og_rne, og_padd, og_psub, og_pmul, List.getD_cons_zero, List.getD_cons_succ, List.set_cons_zero, List.set_cons_succ, List.length_cons, List.length_nil, List.cons_append, List.nil_append, List.replicate, List.append_nil, Nat.reduceAdd, Nat.reduceSub, Nat.reduceEqDiff, if_true, if_false, reduceIte, Int.reduceAdd, Int.reduceSub, Int.reduceMul, Int.reduceNeg, Int.reduceLT, Int.reduceLE, Int.cast_ofNat_Int, true_or, or_true, true_and, and_true, false_and, List.mem_cons, List.not_mem_nil, or_false, false_or, ne_eq, og_i32]
        obtain ⟨o3, k3, ⟨c0, c1, c2⟩, e3, l3, d3⟩ := chI_P (P := P) hI (sNp A) (by omega)
        have tk := sTk_rg (P := P) o3
        refine r_monthGoes (hasM_fr hR1 (fun j k hj => hL3 j k (by omega))) hP hN3 o3 k3 (by omega) ⟨hb3.1, by have := hb3.2; omega⟩ (fun h4 hN4 hF4 e54 => ?_)
        refine ⟨by omega, og_nx_mk (by omega) ?_⟩
        rw [hsx]
        exact ⟨⟨c4', by simp⟩, hN4, by rw [hF4.1 _ _ (by decide) (by decide) (fun _ => by decide)]; exact hl3, frL_tr hL3 (frL_M hF4), by unfold tmB; rw [e54]; exact ⟨by have := hb3.1; omega, by have := hb3.2; omega⟩⟩
    · have e : i = m.toNat := by omega
      subst e
      exact ⟨⟨_, _, rfl⟩, hN2, hl2, hL2, ⟨hb2.1, by have := hb2.2; omega⟩⟩
  · rintro e2 h2 ⟨⟨c3, c4, rfl⟩, hN2, hl2, hL2, hb2⟩
    simp -implicitDefEqProofs only [↓dn_den, ↓dn_loc, ↓dn_k, ↓dn_add, ↓dn_sub, ↓dn_mul, ↓dn_div, ↓dn_rem, ↓dn_bop, ↓dn_ladd, ↓dn_lsub, ↓dn_lmul, ↓dn_ldiv, ↓dn_lrem, ↓dn_land, ↓dn_l2i, ↓dn_neg, ↓dn_get, ↓dn_fix, ↓dn_ald, ↓dn_gld, ↓dn_yld, ↓dn_len, ↓dn_gln, ↓dn_cc, ↓dn_cb, ↓dn_and, ↓dn_or, ↓dn_not, ↓dn_cite, ↓dn_ec, ↓dn_ei, ↓dn_skip, ↓dn_seq, ↓dn_set, ↓dn_inc, ↓dn_putf, ↓dn_putz, ↓dn_ast, ↓dn_exp, ↓dn_if, ↓dn_ret, ↓dn_retz, ↓dn_retv, ↓dn_brk, ↓dn_cont, ↓dn_cs, ↓dn_sw, ↓dn_pop32, ↓dn_pop64, ↓dn_aop, ↓dn_call, ↓dn_max, ↓dn_min, ↓dn_acp, ↓dn_i2l, ↓dn_args0, ↓dn_args1, og_pad, og_ent, og_rlt, og_rle, og_rgt, og_rge, og_req, og_rne, og_padd, og_psub, og_pmul, List.getD_cons_zero, List.getD_cons_succ, List.set_cons_zero, List.set_cons_succ, List.length_cons, List.length_nil, List.cons_append, List.nil_append, List.replicate, List.append_nil, Nat.reduceAdd, Nat.reduceSub, Nat.reduceEqDiff, if_true, if_false, reduceIte, Int.reduceAdd, Int.reduceSub, Int.reduceMul, Int.reduceNeg, Int.reduceLT, Int.reduceLE, Int.cast_ofNat_Int, true_or, or_true, true_and, and_true, false_and, List.mem_cons, List.not_mem_nil, or_false, false_or, ne_eq]
    have hI := chI_M (P := P) ho rfl hI0 m.toNat (by omega)
    have h532 : h2 1000 53 = 0 := by rw [hL2 _ _ (by omega)]; exact h531
    have hf2 : ∀ j k, ¬ (j = 1000 ∧ k = 67) → og_up h2 1000 67 (X 0 2) j k = h2 j k := fun j k z => by unfold og_up; exact if_neg z
    have hr2 := relM_act (h' := og_up h2 1000 67 (X 0 2)) (A' := (sChM P (A, X 0 2, 0) m.toNat).1) (U' := sKp U A) (M' := M + 2000) hr hI.2.2.1.1 hI.2.2.1.2.1 (isN_O hN2 (by decide)) (pastM_fr hp1 (fun j k hj => by rw [hf2 _ _ (by omega)]; exact hL2 j k (by omega))) (by unfold tmB; rw [hf2 _ _ (by omega)]; exact hb2) (fun j k hj => by
      by_cases z : j = 1000 ∧ k = 67
      · rw [z.1, z.2, og_up_eq]; exact hlk.symm
      · rw [hf2 j k z, hL2 j k (by omega), hf1 j k (by omega)])
    have hr3 := relM_luck (v := (sChM P (A, X 0 2, 0) m.toNat).2.1) hI.1 hr2
    have ee : og_up (og_up h2 1000 67 (X 0 2)) 1000 67 (sChM P (A, X 0 2, 0) m.toNat).2.1 = h2 := by
      funext j k
      unfold og_up
      by_cases z : j = 1000 ∧ k = 67
      · rw [if_pos z, z.1, z.2]; exact hl2.symm
      · rw [if_neg z, if_neg z]
    rw [ee] at hr3
    exact hK1 hmm h2 hr3
end
end
