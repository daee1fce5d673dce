section
-- the class: parish
def sFt (X : Yd) (k p : Int) : Yd := fun c j => if c = 0 then (if j = 1 then 0 else if j = 3 then k else if j = 4 then p else X 0 j) else X c j
def sPx (X D : Yd) : Yd := fun c j => if c = 5 then D 10 j else if c = 0 then (if j = 0 then 0 else if j = 1 then 0 else if j = 3 then 0 else if j = 4 then -1 else X 0 j) else X c j
section
variable {q h h' : Hp} {A : Yd} {P : Pr} {U : List Yd} {X : Yd} {n : Int} {K : Int → Hp → Prop}
theorem okX_ft {k p : Int} (hx : okX n A P U X) : okX n A P U (sFt X k p) := by
  obtain ⟨a, b, c, d, e, g, i, j, l⟩ := hx
  exact ⟨a, b, c, d, ⟨⟨Int.le_refl 0, show (0 : Int) ≤ 1600 by decide⟩, fun j a b => by have b : j < 0 := b; omega⟩, g, i, j, l⟩
theorem txC_rel (hr : relC q h A P U X) (hx : okX n A P U X) : txC h (X 2) (X 0 1) := ⟨hr.2.2.1.2.2.1, hr.2.2.1.2.2.2.2.2.2.2, hx.2.2.2.2.1.1.1, hx.2.2.2.2.1.1.2, hx.2.2.2.2.1.2⟩
theorem draft_of (hr : relC q h A P U X) : (h 0 16 = 30 ∨ h 0 16 = 40) ∧ (h 0 15 = 30 ∨ h 0 15 = 40) ∧ h 0 15 ≠ h 0 16 := by
  rcases hr.2.2.1.1.1 with ⟨a, b⟩ | ⟨a, b⟩ <;> omega
theorem relC_ft {k p : Int} (hr : relC q h A P U X) (hf : ∀ i j, i ≠ 3 → i ≠ 5 → ¬ (h 0 16 ≤ i ∧ i ≤ h 0 16 + 9) → ¬ (h 0 16 + 90 ≤ i ∧ i ≤ h 0 16 + 99) → ¬ (i = 0 ∧ (j = 13 ∨ j = 14)) → ¬ (i = 1 ∧ j = 1) → ¬ ((6 ≤ i ∧ i ≤ 9)) → h' i j = h i j) (h13 : h' 0 13 = k) (h14 : h' 0 14 = p) (h11 : h' 1 1 = 0) : relC q h' A P U (sFt X k p) := by
  have hp := draft_of hr
  obtain ⟨y, u, ⟨⟨a1, a2⟩, b, c, d, ⟨e1, e2, e3⟩, ⟨g1, g2⟩, nm, w⟩, f⟩ := hr
  have z : ∀ j, j ≠ 13 → j ≠ 14 → h' 0 j = h 0 j := fun j p1 p2 => hf 0 j (by decide) (by decide) (by omega) (by omega) (by omega) (by omega) (by omega)
  have hg : ∀ i j, (2 ≤ i ∧ i ≤ 2) ∨ i = 4 ∨ (10 ≤ i ∧ i < 30) ∨ (h 0 15 ≤ i ∧ i ≤ h 0 15 + 9) ∨ (100 ≤ i ∧ i ≤ 109) ∨ 140 ≤ i → h' i j = h i j := fun i j hi => hf i j (by omega) (by omega) (by omega) (by omega) (by omega) (by omega) (by omega)
  refine ⟨isY_fr y (fun i k a b => hg i k (by omega)), pastC_fr u (fun i k hi => hg i k (by omega)), ⟨⟨?_, ?_⟩, ⟨?_, ?_⟩, ⟨h11, fun j j0 j1 => ?_⟩, fun j j0 j1 => ?_, ⟨?_, h13, h14⟩, ⟨?_, fun j j0 j1 => ?_⟩, fun j hj => ?_, fun w0 hw => ?_⟩, fun i j hi => (hg i j (by omega)).trans (f i j hi)⟩
  · unfold toldC
    rw [z 15 (by decide) (by decide), z 16 (by decide) (by decide)]
    exact a1
  · rw [z 15 (by decide) (by decide)]
    exact fun n0 r r0 r1 => isR_eq (a2 n0 r r0 r1) (fun i k p q => hg i k (by omega))
  · rw [hg _ _ (by omega)]; exact b.1
  · intro j j0 j1
    rw [hg _ _ (by omega)]; exact b.2 j j0 j1
  · have j1 : j < 0 := j1
    omega
  · rw [hg _ _ (by omega)]; exact d j j0 j1
  · rw [z 12 (by decide) (by decide)]; exact e1
  · rw [z 11 (by decide) (by decide)]; exact g1
  · rw [hg _ _ (by omega)]; exact g2 j j0 j1
  · rw [z 15 (by decide) (by decide), hg _ _ (by omega)]; exact nm j hj
  · rw [hg _ _ (by omega)]; exact w w0 hw
theorem w_keepFault (hK : ∀ h', h' 0 13 = h 3 7 → h' 0 14 = h 3 8 → (∀ i j, ¬ (i = 0 ∧ (j = 13 ∨ j = 14)) → h' i j = h i j) → K 0 h') : m_OG_keepFault [0] h K := by
  unfold m_OG_keepFault
  simp -implicitDefEqProofs only [↓dn_den, ↓dn_loc, ↓dn_k, ↓dn_add, ↓dn_sub, ↓dn_mul, ↓dn_div, ↓dn_rem, ↓dn_bop, ↓dn_ladd, ↓dn_lsub, ↓dn_lmul, ↓dn_ldiv, ↓dn_lrem, ↓dn_land, ↓dn_l2i, ↓dn_neg, ↓dn_get, ↓dn_fix, ↓dn_ald, ↓dn_gld, ↓dn_yld, ↓dn_len, ↓dn_gln, ↓dn_cc, ↓dn_cb, ↓dn_and, ↓dn_or, ↓dn_not, ↓dn_cite, ↓dn_ec, ↓dn_ei, ↓dn_skip, ↓dn_seq, ↓dn_set, ↓dn_inc, ↓dn_putf, ↓dn_putz, ↓dn_ast, ↓dn_exp, ↓dn_if, ↓dn_ret, ↓dn_retz, ↓dn_retv, ↓dn_brk, ↓dn_cont, ↓dn_cs, ↓dn_sw, ↓dn_pop32, ↓dn_pop64, ↓dn_aop, ↓dn_call, ↓dn_max, ↓dn_min, ↓dn_acp, ↓dn_i2l, ↓dn_args0, ↓dn_args1, og_pad, og_ent, og_rlt, og_rle, og_rgt, og_rge, og_req, og_rne, og_padd, og_psub, og_pmul, List.getD_cons_zero, List.getD_cons_succ, List.set_cons_zero, List.set_cons_succ, List.length_cons, List.length_nil, List.cons_append, List.nil_append, List.replicate, List.append_nil, Nat.reduceAdd, Nat.reduceSub, Nat.reduceEqDiff, if_true, if_false, reduceIte, Int.reduceAdd, Int.reduceSub, Int.reduceMul, Int.reduceNeg, Int.reduceLT, Int.reduceLE, Int.cast_ofNat_Int, true_or, or_true, true_and, and_true, false_and, List.mem_cons, List.not_mem_nil, or_false, false_or, ne_eq]
  refine hK _ ?_ ?_ (fun i j p => ?_)
  · rw [og_up_k (by decide), og_up_eq]
  · rw [og_up_eq, og_up_i (by decide)]
  · unfold og_up
    rw [if_neg (by omega), if_neg (by omega)]
theorem c_parish (hn : n ≤ 1000000) (hr : relC q h A P U X) (hx : okX n A P U X) (hK0 : ∀ z, pTx (X 2) (X 0 1) = .inr z → ∀ h', relC q h' A P U (sRf (sFt X z.1 z.2) 1) → K (-1) h') (hK1 : ∀ w, pTx (X 2) (X 0 1) = .inl w → ∀ h', relC q h' w.2.1 (fuP w.2.2) [] (sPx X w.2.1) → K w.1 h') : m_OG_parish [0] h K := by
  have hp := draft_of hr
  have ht := txC_rel hr hx
  unfold m_OG_parish
  simp -implicitDefEqProofs only [↓dn_den, ↓dn_loc, ↓dn_k, ↓dn_add, ↓dn_sub, ↓dn_mul, ↓dn_div, ↓dn_rem, ↓dn_bop, ↓dn_ladd, ↓dn_lsub, ↓dn_lmul, ↓dn_ldiv, ↓dn_lrem, ↓dn_land, ↓dn_l2i, ↓dn_neg, ↓dn_get, ↓dn_fix, ↓dn_ald, ↓dn_gld, ↓dn_yld, ↓dn_len, ↓dn_gln, ↓dn_cc, ↓dn_cb, ↓dn_and, ↓dn_or, ↓dn_not, ↓dn_cite, ↓dn_ec, ↓dn_ei, ↓dn_skip, ↓dn_seq, ↓dn_set, ↓dn_inc, ↓dn_putf, ↓dn_putz, ↓dn_ast, ↓dn_exp, ↓dn_if, ↓dn_ret, ↓dn_retz, ↓dn_retv, ↓dn_brk, ↓dn_cont, ↓dn_cs, ↓dn_sw, ↓dn_pop32, ↓dn_pop64, ↓dn_aop, ↓dn_call, ↓dn_max, ↓dn_min, ↓dn_acp, ↓dn_i2l, ↓dn_args0, ↓dn_args1, og_pad, og_ent, og_rlt, og_rle, og_rgt, og_rge, og_req, og_rne, og_padd, og_psub, og_pmul, List.getD_cons_zero, List.getD_cons_succ, List.set_cons_zero, List.set_cons_succ, List.length_cons, List.length_nil, List.cons_append, List.nil_append, List.replicate, List.append_nil, Nat.reduceAdd, Nat.reduceSub, Nat.reduceEqDiff, if_true, if_false, reduceIte, Int.reduceAdd, Int.reduceSub, Int.reduceMul, Int.reduceNeg, Int.reduceLT, Int.reduceLE, Int.cast_ofNat_Int, true_or, or_true, true_and, and_true, false_and, List.mem_cons, List.not_mem_nil, or_false, false_or, ne_eq]
  generalize hpe : h 0 16 = p at hp
  refine w_read hp.1 ht (fun h1 g0 g1 f1 => ?_)
  refine w_keepFault (fun h2 v13 v14 f2 => ?_)
  have F : ∀ i j, i ≠ 3 → i ≠ 5 → ¬ (p ≤ i ∧ i ≤ p + 9) → ¬ (p + 90 ≤ i ∧ i ≤ p + 99) → ¬ (i = 0 ∧ (j = 13 ∨ j = 14)) → ¬ (i = 1 ∧ j = 1) → og_up h2 1 1 0 i j = h i j := fun i j p1 p2 p3 p4 p5 p6 => by
    have : og_up h2 1 1 0 i j = h2 i j := by unfold og_up; exact if_neg p6
    rw [this, f2 i j p5, f1 i j p1 p2 p3 p4]
  have G : ∀ i j, ((p ≤ i ∧ i ≤ p + 9) ∨ (p + 90 ≤ i ∧ i ≤ p + 99)) → og_up h2 1 1 0 i j = h1 i j := fun i j hi => by rw [og_up_i (by omega), f2 i j (by omega)]
  have e13 : og_up h2 1 1 0 0 13 = h1 3 7 := by rw [og_up_i (by decide)]; exact v13
  have e14 : og_up h2 1 1 0 0 14 = h1 3 8 := by rw [og_up_i (by decide)]; exact v14
  have e11 : og_up h2 1 1 0 1 1 = 0 := og_up_eq
  generalize og_up h2 1 1 0 = h3 at F G e13 e14 e11
  cases e : pTx (X 2) (X 0 1) with
  | inr z =>
    have g0 := g0 z e
    refine ⟨fun _ => ?_, fun y => absurd (show pCt (.inr z) = -1 from rfl) y⟩
    have r3 : relC q h3 A P U (sFt X z.1 z.2) := relC_ft hr (fun i j p1 p2 p3 p4 p5 p6 _ => F i j p1 p2 (by omega) (by omega) p5 p6) (e13.trans g0.1) (e14.trans g0.2.1) e11
    exact c_refuse (by decide) hn r3 (okX_ft hx) (fun h4 r4 => hK0 z e h4 r4)
  | inl w =>
    obtain ⟨g1a, g1y, g1n, g1r⟩ := g1 w e
    have ok := pAll_ok (i := 0) 1601 0 _ (okD_0 ht.2.2.1) e
    obtain ⟨a0, okd⟩ := ok.1
    have hne : ¬ w.1 = -1 := by have := ok.2.1; omega
    refine ⟨fun y => absurd y hne, fun _ => ?_⟩
    have e15 : h3 0 15 = h 0 15 := F 0 15 (by decide) (by decide) (by omega) (by omega) (by omega) (by omega)
    have e16 : h3 0 16 = p := (F 0 16 (by decide) (by decide) (by omega) (by omega) (by omega) (by omega)).trans hpe
    rw [e15, e16]
    have S : ∀ i j, ¬ (i = 0 ∧ (j = 15 ∨ j = 16)) → og_up (og_up h3 0 15 p) 0 16 (h 0 15) i j = h3 i j := fun i j p1 => by
      unfold og_up
      rw [if_neg (by omega), if_neg (by omega)]
    have S15 : og_up (og_up h3 0 15 p) 0 16 (h 0 15) 0 15 = p := by rw [og_up_k (by decide), og_up_eq]
    have S16 : og_up (og_up h3 0 15 p) 0 16 (h 0 15) 0 16 = h 0 15 := og_up_eq
    generalize og_up (og_up h3 0 15 p) 0 16 (h 0 15) = h4 at S S15 S16
    rw [S15]
    refine s_Yard_become (by omega) (isY_fr g1y (fun i k a b => by rw [S i k (by omega)]; exact G i k (by omega))) okd.2.1 (fun h5 y5 f5 => ?_)
    unfold m_Past_forget
    simp -implicitDefEqProofs only [↓dn_den, ↓dn_loc, ↓dn_k, ↓dn_add, ↓dn_sub, ↓dn_mul, ↓dn_div, ↓dn_rem, ↓dn_bop, ↓dn_ladd, ↓dn_lsub, ↓dn_lmul, ↓dn_ldiv, ↓dn_lrem, ↓dn_land, ↓dn_l2i, ↓dn_neg, ↓dn_get, ↓dn_fix, ↓dn_ald, ↓dn_gld, ↓dn_yld, ↓dn_len, ↓dn_gln, ↓dn_cc, ↓dn_cb, ↓dn_and, ↓dn_or, ↓dn_not, ↓dn_cite, ↓dn_ec, ↓dn_ei, ↓dn_skip, ↓dn_seq, ↓dn_set, ↓dn_inc, ↓dn_putf, ↓dn_putz, ↓dn_ast, ↓dn_exp, ↓dn_if, ↓dn_ret, ↓dn_retz, ↓dn_retv, ↓dn_brk, ↓dn_cont, ↓dn_cs, ↓dn_sw, ↓dn_pop32, ↓dn_pop64, ↓dn_aop, ↓dn_call, ↓dn_max, ↓dn_min, ↓dn_acp, ↓dn_i2l, ↓dn_args0, ↓dn_args1, og_pad, og_ent, og_rlt, og_rle, og_rgt, og_rge, og_req, og_rne, og_padd, og_psub, og_pmul, List.getD_cons_zero, List.getD_cons_succ, List.set_cons_zero, List.set_cons_succ, List.length_cons, List.length_nil, List.cons_append, List.nil_append, List.replicate, List.append_nil, Nat.reduceAdd, Nat.reduceSub, Nat.reduceEqDiff, if_true, if_false, reduceIte, Int.reduceAdd, Int.reduceSub, Int.reduceMul, Int.reduceNeg, Int.reduceLT, Int.reduceLE, Int.cast_ofNat_Int, true_or, or_true, true_and, and_true, false_and, List.mem_cons, List.not_mem_nil, or_false, false_or, ne_eq]
    have T : ∀ i j, ¬ (i = 20 ∧ j = 1) → ¬ (i = 10 ∧ j = 4) → og_up (og_up h5 20 1 0) 10 4 0 i j = h5 i j := fun i j p1 p2 => by
      unfold og_up
      rw [if_neg p2, if_neg p1]
    have T20 : og_up (og_up h5 20 1 0) 10 4 0 20 1 = 0 := by rw [og_up_i (by decide), og_up_eq]
    have T10 : og_up (og_up h5 20 1 0) 10 4 0 10 4 = 0 := og_up_eq
    generalize og_up (og_up h5 20 1 0) 10 4 0 = h6 at T T20 T10
    obtain ⟨y, u, ⟨⟨a1, a2⟩, b, c, d, ⟨e1, e2, e3⟩, ⟨k1, k2⟩, nm, sp⟩, f⟩ := hr
    have W : ∀ i j, i ≠ 7 → i ≠ 9 → ¬ (100 ≤ i ∧ i ≤ 109) → ¬ (i = 20 ∧ j = 1) → ¬ (i = 10 ∧ j = 4) → ¬ (i = 0 ∧ (j = 15 ∨ j = 16)) → h6 i j = h3 i j := fun i j p1 p2 p3 p4 p5 p6 => by rw [T i j p4 p5, f5 i j p1 p2 (by omega), S i j p6]
    have V : ∀ i j, i ≠ 3 → i ≠ 5 → ¬ (p ≤ i ∧ i ≤ p + 9) → ¬ (p + 90 ≤ i ∧ i ≤ p + 99) → ¬ (i = 0 ∧ (j = 13 ∨ j = 14)) → ¬ (i = 1 ∧ j = 1) → i ≠ 7 → i ≠ 9 → ¬ (100 ≤ i ∧ i ≤ 109) → ¬ (i = 20 ∧ j = 1) → ¬ (i = 10 ∧ j = 4) → ¬ (i = 0 ∧ (j = 15 ∨ j = 16)) → h6 i j = h i j := fun i j p1 p2 p3 p4 p5 p6 p7 p8 p9 q1 q2 q3 => (W i j p7 p8 p9 q1 q2 q3).trans (F i j p1 p2 p3 p4 p5 p6)
    have H15 : h6 0 15 = p := by rw [T _ _ (by decide) (by decide), f5 _ _ (by decide) (by decide) (by decide)]; exact S15
    have H16 : h6 0 16 = h 0 15 := by rw [T _ _ (by decide) (by decide), f5 _ _ (by decide) (by decide) (by decide)]; exact S16
    have WG : ∀ i j, (p ≤ i ∧ i ≤ p + 9) → h6 i j = h1 i j := fun i j hi => (W i j (by omega) (by omega) (by omega) (by omega) (by omega) (by omega)).trans (G i j (Or.inl hi))
    refine hK1 w e h6 ⟨isY_fr y5 (fun i k a b => T i k (by omega) (by omega)), ⟨⟨T20, by simp, ?_, ?_⟩, fun j hj => by simp at hj⟩, ⟨⟨?_, ?_⟩, ⟨T10, fun j j0 j1 => ?_⟩, ⟨?_, fun j j0 j1 => ?_⟩, fun j j0 j1 => ?_, ⟨?_, ?_, ?_⟩, ⟨?_, fun j j0 j1 => ?_⟩, fun j hj => ?_, fun w0 hw => ?_⟩, fun i j hi => ?_⟩
    · rw [V _ _ (by decide) (by decide) (by omega) (by omega) (by decide) (by decide) (by decide) (by decide) (by decide) (by decide) (by decide) (by decide)]; exact u.1.2.2.1
    · rw [V _ _ (by decide) (by decide) (by omega) (by omega) (by decide) (by decide) (by decide) (by decide) (by decide) (by decide) (by decide) (by decide)]; exact u.1.2.2.2
    · unfold toldC
      rw [H15, H16]
      omega
    · rw [H15]
      exact fun n0 r r0 r1 => isR_eq (g1r n0 r r0 r1) (fun i k p q => WG i k (by omega))
    · have j1 : j < 3 * 0 := j1
      omega
    · rw [W _ _ (by decide) (by decide) (by decide) (by decide) (by decide) (by decide)]; exact e11
    · have j1 : j < 0 := j1
      omega
    · rw [V _ _ (by decide) (by decide) (by omega) (by omega) (by omega) (by omega) (by decide) (by decide) (by decide) (by omega) (by omega) (by omega)]; exact d j j0 j1
    · rw [V _ _ (by decide) (by decide) (by omega) (by omega) (by decide) (by decide) (by decide) (by decide) (by decide) (by decide) (by decide) (by decide)]; exact e1
    · rw [W _ _ (by decide) (by decide) (by decide) (by decide) (by decide) (by decide), e13]; exact g1a.1
    · rw [W _ _ (by decide) (by decide) (by decide) (by decide) (by decide) (by decide), e14]; exact g1a.2
    · rw [V _ _ (by decide) (by decide) (by omega) (by omega) (by decide) (by decide) (by decide) (by decide) (by decide) (by decide) (by decide) (by decide)]; exact k1
    · rw [V _ _ (by decide) (by decide) (by omega) (by omega) (by omega) (by omega) (by decide) (by decide) (by decide) (by omega) (by omega) (by omega)]; exact k2 j j0 j1
    · rw [H15, WG _ _ (by omega)]; exact g1n j hj
    · rw [V _ _ (by decide) (by decide) (by omega) (by omega) (by omega) (by omega) (by decide) (by decide) (by decide) (by omega) (by omega) (by omega)]; exact sp w0 hw
    · rw [V _ _ (by omega) (by omega) (by omega) (by omega) (by omega) (by omega) (by omega) (by omega) (by omega) (by omega) (by omega) (by omega)]; exact f i j hi
end
end
