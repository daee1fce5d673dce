section
-- the reference: a grave, a person, a rule
section
variable {h h0 h' : Hp} {B : Int → Int} {n a : Int} {t : TS} {K : Int → Hp → Prop} {D : Yd} {R : Pr} {c : List Int}
theorem wn_g : wnM 1004 = 1 ∧ wnM 1005 = 2 ∧ wnM 1006 = 3 ∧ wnM 1008 = 5 ∧ wnM 1009 = 6 ∧ wnM 1010 = 7 := by decide
theorem tkM_fr (hk : tkM h B n t) (hf : ∀ k, (k = 2 ∨ k = 4 ∨ k = 5 ∨ k = 6) → h' 1000 k = h 1000 k) : tkM h' B n t := by
  cases t with
  | inl a => exact refS_fr hk hf
  | inr z => exact ⟨by rw [hf 5 (by decide)]; exact hk.1, by rw [hf 6 (by decide)]; exact hk.2.1, hk.2.2⟩
theorem r_graveTold {p : Int} (ht : txM h B n) (hr : refS h B n a) (hn : nmM h D)
    (hF : 6 ≤ D 0 0 → ∀ h', fltM h' 5 p → frX h h' → K 0 h')
    (hK : ¬ 6 ≤ D 0 0 → ∀ h', tkM h' B n (pGrv B n D a) → (∀ z, pGrv B n D a = .inr z → frX h h') → (∀ b, pGrv B n D a = .inl b → (h' 1029 (D 0 0) = nmV B n a ∧ h' 1030 (D 0 0) = tN B n (tI B n a 2) ∧ h' 1032 (2 * D 0 0) = tN B n (tI B n a 4) ∧ h' 1032 (2 * D 0 0 + 1) = tN B n (tI B n a 6) ∧ h' 1028 0 = D 0 0 + 1) ∧ (∀ i k, ¬ ((i = 1029 ∧ k = D 0 0) ∨ (i = 1030 ∧ k = D 0 0) ∨ (i = 1032 ∧ (k = 2 * D 0 0 ∨ k = 2 * D 0 0 + 1)) ∨ (i = 1028 ∧ k = 0) ∨ (i = 1000 ∧ (k = 2 ∨ k = 4 ∨ k = 5 ∨ k = 6 ∨ k = 10 ∨ k = 36))) → h' i k = h i k)) → K 0 h') : m_Model_graveTold [1000, p] h K := by
  have dm := hn.2.1
  have d0 := hn.1.1
  unfold m_Model_graveTold
  simp -implicitDefEqProofs only [↓dn_den, ↓dn_loc, ↓dn_k, ↓dn_add, ↓dn_sub, ↓dn_mul, ↓dn_div, ↓dn_rem, ↓dn_bop, ↓dn_ladd, ↓dn_lsub, ↓dn_lmul, ↓dn_ldiv, ↓dn_lrem, ↓dn_land, ↓dn_l2i, ↓dn_neg, ↓dn_get, ↓dn_fix, ↓dn_ald, ↓dn_gld, ↓dn_yld, ↓dn_len, ↓dn_gln, ↓dn_cc, ↓dn_cb, ↓dn_and, ↓dn_or, ↓dn_not, ↓dn_cite, ↓dn_ec, ↓dn_ei, ↓dn_skip, ↓dn_seq, ↓dn_set, ↓dn_inc, ↓dn_putf, ↓dn_putz, ↓dn_ast, ↓dn_exp, ↓dn_if, ↓dn_ret, ↓dn_retz, ↓dn_retv, ↓dn_brk, ↓dn_cont, ↓dn_cs, ↓dn_sw, ↓dn_pop32, ↓dn_pop64, ↓dn_aop, ↓dn_call, ↓dn_max, ↓dn_min, ↓dn_acp, ↓dn_i2l, ↓dn_args0, ↓dn_args1, og_pad, og_ent, og_rlt, og_rle, og_rgt, og_rge, og_req, og_rne, og_padd, og_psub, og_pmul, List.getD_cons_zero, List.getD_cons_succ, List.set_cons_zero, List.set_cons_succ, List.length_cons, List.length_nil, List.cons_append, List.nil_append, List.replicate, List.append_nil, Nat.reduceAdd, Nat.reduceSub, Nat.reduceEqDiff, if_true, if_false, reduceIte, Int.reduceAdd, Int.reduceSub, Int.reduceMul, Int.reduceNeg, Int.reduceLT, Int.reduceLE, Int.cast_ofNat_Int, true_or, or_true, true_and, and_true, false_and, List.mem_cons, List.not_mem_nil, or_false, false_or, ne_eq, og_i32]
  refine r_isFull (by decide) hr.1.1 (fun q => ⟨fun z => absurd (by trivial) z, fun _ => ?_⟩) (fun q h1 l1 f1 => ⟨fun _ => hF (by omega) h1 l1 (fun i k hp => f1 i k (by omega)), fun z => absurd z (by decide)⟩)
  have nf : ¬ 6 ≤ D 0 0 := by omega
  refine r_newName ht hr hn (fun v h1 v1 k1 f1 => ?_)
  refine r_tail (w1 := 1004) (w2 := 1005) (w3 := 1006) (by unfold idW; omega) (txM_X ht f1) k1 (fun x y z h2 k2 v2 f2 => ?_)
  rw [wn_g.1, wn_g.2.1, wn_g.2.2.1] at k2 v2
  have fx := frX_tr f1 f2
  have hK := hK nf
  have k3 : tkM h2 B n (pGrv B n D a) := k2
  refine ⟨fun q => ?_, fun q => ?_⟩
  · cases e : pGrv B n D a with
    | inl b => rw [e] at k3; exact absurd k3.1.1 q
    | inr z => exact hK h2 k3 (fun _ _ => fx) (fun b e' => by rw [e] at e'; cases e')
  · have q : h2 1000 5 = 0 := by simpa using q
    cases e : pGrv B n D a with
    | inr z => rw [e] at k3; exact absurd (k3.1.symm.trans q) k3.2.2
    | inl b =>
      obtain ⟨a1, q1, x1, x2, x3⟩ := v2 b e
      obtain ⟨a0, q0, g0, r0⟩ := tb_l q1
      have := Sum.inl.inj q0
      subst this
      have e28 : h2 1028 0 = D 0 0 := (fx _ _ (by omega)).trans d0
      rw [e28]
      simp only [og_up_i (show (1028 : Int) ≠ 1032 by decide), og_up_i (show (1028 : Int) ≠ 1030 by decide), og_up_i (show (1028 : Int) ≠ 1029 by decide), e28]
      have U : ∀ i k, ¬ ((i = 1029 ∧ k = D 0 0) ∨ (i = 1030 ∧ k = D 0 0) ∨ (i = 1032 ∧ (k = 2 * D 0 0 ∨ k = 2 * D 0 0 + 1)) ∨ (i = 1028 ∧ k = 0)) → og_up (og_up (og_up (og_up (og_up h2 1029 (D 0 0) v) 1030 (D 0 0) x) 1032 (2 * D 0 0) y) 1032 (2 * D 0 0 + 1) z) 1028 0 (D 0 0 + 1) i k = h2 i k := fun i k hp => by
        unfold og_up
        rw [if_neg (by omega), if_neg (by omega), if_neg (by omega), if_neg (by omega), if_neg (by omega)]
      have W : og_up (og_up (og_up (og_up (og_up h2 1029 (D 0 0) v) 1030 (D 0 0) x) 1032 (2 * D 0 0) y) 1032 (2 * D 0 0 + 1) z) 1028 0 (D 0 0 + 1) 1029 (D 0 0) = v ∧ og_up (og_up (og_up (og_up (og_up h2 1029 (D 0 0) v) 1030 (D 0 0) x) 1032 (2 * D 0 0) y) 1032 (2 * D 0 0 + 1) z) 1028 0 (D 0 0 + 1) 1030 (D 0 0) = x ∧ og_up (og_up (og_up (og_up (og_up h2 1029 (D 0 0) v) 1030 (D 0 0) x) 1032 (2 * D 0 0) y) 1032 (2 * D 0 0 + 1) z) 1028 0 (D 0 0 + 1) 1032 (2 * D 0 0) = y ∧ og_up (og_up (og_up (og_up (og_up h2 1029 (D 0 0) v) 1030 (D 0 0) x) 1032 (2 * D 0 0) y) 1032 (2 * D 0 0 + 1) z) 1028 0 (D 0 0 + 1) 1032 (2 * D 0 0 + 1) = z ∧ og_up (og_up (og_up (og_up (og_up h2 1029 (D 0 0) v) 1030 (D 0 0) x) 1032 (2 * D 0 0) y) 1032 (2 * D 0 0 + 1) z) 1028 0 (D 0 0 + 1) 1028 0 = D 0 0 + 1 := by
        refine ⟨?_, ?_, ?_, ?_, og_up_eq⟩
        · rw [og_up_i (by decide), og_up_i (by decide), og_up_i (by decide), og_up_i (by decide), og_up_eq]
        · rw [og_up_i (by decide), og_up_i (by decide), og_up_i (by decide), og_up_eq]
        · rw [og_up_i (by decide), og_up_k (by omega), og_up_eq]
        · rw [og_up_i (by decide), og_up_eq]
      generalize og_up (og_up (og_up (og_up (og_up h2 1029 (D 0 0) v) 1030 (D 0 0) x) 1032 (2 * D 0 0) y) 1032 (2 * D 0 0 + 1) z) 1028 0 (D 0 0 + 1) = h3 at U W
      have fin := hK h3 (tkM_fr k3 (fun k hk => U _ _ (by omega))) (fun z e' => by rw [e] at e'; cases e') (fun b e' => ⟨⟨?_, ?_, ?_, ?_, W.2.2.2.2⟩, fun i k hp => by rw [U i k (by omega)]; exact fx i k (by omega)⟩)
      · repeat (refine And.intro (by omega) ?_)
        exact fin
      · rw [W.1, v1 g0]
      · rw [W.2.1, x1, r0]; rfl
      · rw [W.2.2.1, x2, r0]; rfl
      · rw [W.2.2.2.1, x3, r0]; rfl
theorem r_personTold {p : Int} (ht : txM h B n) (hr : refS h B n a) (hn : nmM h D)
    (hF : 8 ≤ D 0 1 → ∀ h', fltM h' 5 p → frX h h' → K 0 h')
    (hK : ¬ 8 ≤ D 0 1 → ∀ h', tkM h' B n (pPrs B n D a) → (∀ z, pPrs B n D a = .inr z → frX h h') → (∀ b, pPrs B n D a = .inl b → (h' 1029 (8 + D 0 1) = nmV B n a ∧ h' 1031 (D 0 1) = tN B n (tI B n a 2) ∧ h' 1033 (2 * D 0 1) = tN B n (tI B n a 4) ∧ h' 1033 (2 * D 0 1 + 1) = tN B n (tI B n a 6) ∧ h' 1028 1 = D 0 1 + 1) ∧ (∀ i k, ¬ ((i = 1029 ∧ k = 8 + D 0 1) ∨ (i = 1031 ∧ k = D 0 1) ∨ (i = 1033 ∧ (k = 2 * D 0 1 ∨ k = 2 * D 0 1 + 1)) ∨ (i = 1028 ∧ k = 1) ∨ (i = 1000 ∧ (k = 2 ∨ k = 4 ∨ k = 5 ∨ k = 6 ∨ k = 10 ∨ k = 36))) → h' i k = h i k)) → K 0 h') : m_Model_personTold [1000, p] h K := by
  have dm := hn.2.1
  have d0 := hn.1.2
  unfold m_Model_personTold
  simp -implicitDefEqProofs only [↓dn_den, ↓dn_loc, ↓dn_k, ↓dn_add, ↓dn_sub, ↓dn_mul, ↓dn_div, ↓dn_rem, ↓dn_bop, ↓dn_ladd, ↓dn_lsub, ↓dn_lmul, ↓dn_ldiv, ↓dn_lrem, ↓dn_land, ↓dn_l2i, ↓dn_neg, ↓dn_get, ↓dn_fix, ↓dn_ald, ↓dn_gld, ↓dn_yld, ↓dn_len, ↓dn_gln, ↓dn_cc, ↓dn_cb, ↓dn_and, ↓dn_or, ↓dn_not, ↓dn_cite, ↓dn_ec, ↓dn_ei, ↓dn_skip, ↓dn_seq, ↓dn_set, ↓dn_inc, ↓dn_putf, ↓dn_putz, ↓dn_ast, ↓dn_exp, ↓dn_if, ↓dn_ret, ↓dn_retz, ↓dn_retv, ↓dn_brk, ↓dn_cont, ↓dn_cs, ↓dn_sw, ↓dn_pop32, ↓dn_pop64, ↓dn_aop, ↓dn_call, ↓dn_max, ↓dn_min, ↓dn_acp, ↓dn_i2l, ↓dn_args0, ↓dn_args1, og_pad, og_ent, og_rlt, og_rle, og_rgt, og_rge, og_req, og_rne, og_padd, og_psub, og_pmul, List.getD_cons_zero, List.getD_cons_succ, List.set_cons_zero, List.set_cons_succ, List.length_cons, List.length_nil, List.cons_append, List.nil_append, List.replicate, List.append_nil, Nat.reduceAdd, Nat.reduceSub, Nat.reduceEqDiff, if_true, if_false, reduceIte, Int.reduceAdd, Int.reduceSub, Int.reduceMul, Int.reduceNeg, Int.reduceLT, Int.reduceLE, Int.cast_ofNat_Int, true_or, or_true, true_and, and_true, false_and, List.mem_cons, List.not_mem_nil, or_false, false_or, ne_eq, og_i32]
  refine r_isFull (by decide) hr.1.1 (fun q => ⟨fun z => absurd (by trivial) z, fun _ => ?_⟩) (fun q h1 l1 f1 => ⟨fun _ => hF (by omega) h1 l1 (fun i k hp => f1 i k (by omega)), fun z => absurd z (by decide)⟩)
  have nf : ¬ 8 ≤ D 0 1 := by omega
  refine r_newName ht hr hn (fun v h1 v1 k1 f1 => ?_)
  refine r_tail (w1 := 1008) (w2 := 1009) (w3 := 1010) (by unfold idW; omega) (txM_X ht f1) k1 (fun x y z h2 k2 v2 f2 => ?_)
  rw [wn_g.2.2.2.1, wn_g.2.2.2.2.1, wn_g.2.2.2.2.2] at k2 v2
  have fx := frX_tr f1 f2
  have hK := hK nf
  have k3 : tkM h2 B n (pPrs B n D a) := k2
  refine ⟨fun q => ?_, fun q => ?_⟩
  · cases e : pPrs B n D a with
    | inl b => rw [e] at k3; exact absurd k3.1.1 q
    | inr z => exact hK h2 k3 (fun _ _ => fx) (fun b e' => by rw [e] at e'; cases e')
  · have q : h2 1000 5 = 0 := by simpa using q
    cases e : pPrs B n D a with
    | inr z => rw [e] at k3; exact absurd (k3.1.symm.trans q) k3.2.2
    | inl b =>
      obtain ⟨a1, q1, x1, x2, x3⟩ := v2 b e
      obtain ⟨a0, q0, g0, r0⟩ := tb_l q1
      have := Sum.inl.inj q0
      subst this
      have e28 : h2 1028 1 = D 0 1 := (fx _ _ (by omega)).trans d0
      rw [e28]
      simp only [og_up_i (show (1028 : Int) ≠ 1033 by decide), og_up_i (show (1028 : Int) ≠ 1031 by decide), og_up_i (show (1028 : Int) ≠ 1029 by decide), e28]
      have U : ∀ i k, ¬ ((i = 1029 ∧ k = 8 + D 0 1) ∨ (i = 1031 ∧ k = D 0 1) ∨ (i = 1033 ∧ (k = 2 * D 0 1 ∨ k = 2 * D 0 1 + 1)) ∨ (i = 1028 ∧ k = 1)) → og_up (og_up (og_up (og_up (og_up h2 1029 (8 + D 0 1) v) 1031 (D 0 1) x) 1033 (2 * D 0 1) y) 1033 (2 * D 0 1 + 1) z) 1028 1 (D 0 1 + 1) i k = h2 i k := fun i k hp => by
        unfold og_up
        rw [if_neg (by omega), if_neg (by omega), if_neg (by omega), if_neg (by omega), if_neg (by omega)]
      have W : og_up (og_up (og_up (og_up (og_up h2 1029 (8 + D 0 1) v) 1031 (D 0 1) x) 1033 (2 * D 0 1) y) 1033 (2 * D 0 1 + 1) z) 1028 1 (D 0 1 + 1) 1029 (8 + D 0 1) = v ∧ og_up (og_up (og_up (og_up (og_up h2 1029 (8 + D 0 1) v) 1031 (D 0 1) x) 1033 (2 * D 0 1) y) 1033 (2 * D 0 1 + 1) z) 1028 1 (D 0 1 + 1) 1031 (D 0 1) = x ∧ og_up (og_up (og_up (og_up (og_up h2 1029 (8 + D 0 1) v) 1031 (D 0 1) x) 1033 (2 * D 0 1) y) 1033 (2 * D 0 1 + 1) z) 1028 1 (D 0 1 + 1) 1033 (2 * D 0 1) = y ∧ og_up (og_up (og_up (og_up (og_up h2 1029 (8 + D 0 1) v) 1031 (D 0 1) x) 1033 (2 * D 0 1) y) 1033 (2 * D 0 1 + 1) z) 1028 1 (D 0 1 + 1) 1033 (2 * D 0 1 + 1) = z ∧ og_up (og_up (og_up (og_up (og_up h2 1029 (8 + D 0 1) v) 1031 (D 0 1) x) 1033 (2 * D 0 1) y) 1033 (2 * D 0 1 + 1) z) 1028 1 (D 0 1 + 1) 1028 1 = D 0 1 + 1 := by
        refine ⟨?_, ?_, ?_, ?_, og_up_eq⟩
        · rw [og_up_i (by decide), og_up_i (by decide), og_up_i (by decide), og_up_i (by decide), og_up_eq]
        · rw [og_up_i (by decide), og_up_i (by decide), og_up_i (by decide), og_up_eq]
        · rw [og_up_i (by decide), og_up_k (by omega), og_up_eq]
        · rw [og_up_i (by decide), og_up_eq]
      generalize og_up (og_up (og_up (og_up (og_up h2 1029 (8 + D 0 1) v) 1031 (D 0 1) x) 1033 (2 * D 0 1) y) 1033 (2 * D 0 1 + 1) z) 1028 1 (D 0 1 + 1) = h3 at U W
      have fin := hK h3 (tkM_fr k3 (fun k hk => U _ _ (by omega))) (fun z e' => by rw [e] at e'; cases e') (fun b e' => ⟨⟨?_, ?_, ?_, ?_, W.2.2.2.2⟩, fun i k hp => by rw [U i k (by omega)]; exact fx i k (by omega)⟩)
      · repeat (refine And.intro (by omega) ?_)
        exact fin
      · rw [W.1, v1 g0]
      · rw [W.2.1, x1, r0]; rfl
      · rw [W.2.2.1, x2, r0]; rfl
      · rw [W.2.2.2.1, x3, r0]; rfl
end
end
