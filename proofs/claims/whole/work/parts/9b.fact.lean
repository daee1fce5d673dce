section
-- the reference's facts
section
variable {h h0 h' : Hp} {B : Int → Int} {n a o o0 pu : Int} {c V W W0 : List Int} {K : Int → Hp → Prop} {R R' : PS} {s s' : MS} {k : Nat}
theorem qB_at {a' : Int} (hq : qB h B n a c W o) (hr : refS h' B n a') (ha : a ≤ a') (hf : ∀ i k, (i = 1070 ∨ i = 1071 ∨ (i = 1000 ∧ (k = 91 ∨ k = 93 ∨ k = 94))) → h' i k = h i k) : qB h' B n a' c W o := by
  obtain ⟨q1, q2, q3, q4, q5, q6⟩ := hq
  exact ⟨hr, cdM_fr q2 (fun i k hi => hf i k (by omega)), stM_fr q3 (fun i k hi => hf i k (by omega)), by rw [hf _ _ (by decide)]; exact q4, by omega, q6⟩
theorem r_qFact {b : Int} (hk : h 1000 48 = kdM pu) (ht : txM h B n) (hW : ¬ (1 ≤ hd0 W ∧ hd0 W ≤ 4)) (hq : qB h B n a c W o) (hb : h 1000 95 = b)
    (hT : ∀ h' a' c', gFa B n pu o a c = .inl (a', c') → qB h' B n a' c' W o → h' 1000 95 = b → frZ h h' → K 0 h')
    (hF : ∀ h' z, gFa B n pu o a c = .inr z → fltM h' z.1 z.2 → frZ h h' → K 0 h') : m_Model_qFact [1000] h K := by
  have hn := ht.2.2.1
  have ha := hq.1.2.1
  have hlen := hq.2.2.2.2.1
  have te := tE_le (B := B) ha.2
  unfold m_Model_qFact
  simp -implicitDefEqProofs only [↓dn_den, ↓dn_loc, ↓dn_k, ↓dn_add, ↓dn_sub, ↓dn_mul, ↓dn_div, ↓dn_rem, ↓dn_bop, ↓dn_ladd, ↓dn_lsub, ↓dn_lmul, ↓dn_ldiv, ↓dn_lrem, ↓dn_land, ↓dn_l2i, ↓dn_neg, ↓dn_get, ↓dn_fix, ↓dn_ald, ↓dn_gld, ↓dn_yld, ↓dn_len, ↓dn_gln, ↓dn_cc, ↓dn_cb, ↓dn_and, ↓dn_or, ↓dn_not, ↓dn_cite, ↓dn_ec, ↓dn_ei, ↓dn_skip, ↓dn_seq, ↓dn_set, ↓dn_inc, ↓dn_putf, ↓dn_putz, ↓dn_ast, ↓dn_exp, ↓dn_if, ↓dn_ret, ↓dn_retz, ↓dn_retv, ↓dn_brk, ↓dn_cont, ↓dn_cs, ↓dn_sw, ↓dn_pop32, ↓dn_pop64, ↓dn_aop, ↓dn_call, ↓dn_max, ↓dn_min, ↓dn_acp, ↓dn_i2l, ↓dn_args0, ↓dn_args1, og_pad, og_ent, og_rlt, og_rle, og_rgt, og_rge, og_req, og_rne, og_padd, og_psub, og_pmul, List.getD_cons_zero, List.getD_cons_succ, List.set_cons_zero, List.set_cons_succ, List.length_cons, List.length_nil, List.cons_append, List.nil_append, List.replicate, List.append_nil, Nat.reduceAdd, Nat.reduceSub, Nat.reduceEqDiff, if_true, if_false, reduceIte, Int.reduceAdd, Int.reduceSub, Int.reduceMul, Int.reduceNeg, Int.reduceLT, Int.reduceLE, Int.cast_ofNat_Int, true_or, or_true, true_and, and_true, false_and, List.mem_cons, List.not_mem_nil, or_false, false_or, ne_eq, og_i32]
  have w57 : wnM 1057 = 22 := by decide
  unfold gFa at hT hF
  refine r_takes (w := 1057) (by unfold idW; omega) ht hq.1 (fun w h1 r1 f1 => ⟨fun _ => ?_, fun z => absurd z (by decide)⟩) (fun w h1 r1 v1 f1 => ⟨fun z => absurd rfl z, fun _ => ?_⟩)
  · rw [w57] at w
    rw [if_pos w] at hT
    have wg := wrd_go (B := B) (n := n) (a := a) (by omega)
    refine r_qCode (v := 13) (c := c) (cdM_fr hq.2.1 (fun i k hi => f1 i k (by omega))) (by omega) (by unfold okc; omega) (fun h2 c2 f2 => ?_)
    have e2 : ∀ i k, i ≠ 1070 → ¬ (i = 1000 ∧ (k = 91 ∨ k = 2 ∨ k = 4 ∨ k = 5 ∨ k = 6 ∨ k = 10 ∨ k = 36)) → h2 i k = h i k := fun i k p q => by rw [f2 i k p (by omega)]; exact f1 i k (by omega)
    refine hT h2 (tE B n a) (c ++ [1]) rfl ⟨refS_fr r1 (fun k hk => f2 _ _ (by decide) (by omega)), c2, stM_fr hq.2.2.1 (fun i k hi => e2 i k (by omega) (by omega)), by rw [e2 _ _ (by decide) (by decide)]; exact hq.2.2.2.1, by rw [List.length_append]; simp; omega, hq.2.2.2.2.2⟩ (by rw [e2 _ _ (by decide) (by decide)]; exact hb) (fun i k p q r => e2 i k p (by omega))
  · rw [w57] at w
    rw [if_neg w] at hT hF
    unfold gCmp at hT hF
    have hq1 := qB_at hq r1 (Int.le_refl _) (fun i k hi => f1 i k (by omega))
    have z1 := frX_Z f1
    refine r_qSums (pu := pu) (b := b) (by rw [f1 _ _ (by decide)]; exact hk) (txM_X ht f1) hW hq1 (by rw [f1 _ _ (by decide)]; exact hb) (fun h2 a2 c2 e2 hq2 b2 f2 => ?_) (fun h2 z e2 l2 f2 => ?_)
    · rw [e2, bnd_l] at hT hF
      have z2 := frZ_tr z1 f2
      have ht2 := txM_Z ht z2
      have ha2 := hq2.1.2.1
      have te2 := tE_le (B := B) ha2.2
      have sp2 := tS_sp B n a2
      have le2 : tS B n a2 ≤ n := rn_le ha2.2
      refine ⟨fun z => absurd hq2.1.1.1 z, fun _ => ?_⟩
      refine r_look ht2 hq2.1 (fun h3 r3 v3 f3 => ?_)
      have s60 := sgn_iff (B := B) (n := n) (a := a2) (x := 60) ha2.1 (by decide)
      have s61 := sgn_iff (B := B) (n := n) (a := a2) (x := 61) ha2.1 (by decide)
      have s62 := sgn_iff (B := B) (n := n) (a := a2) (x := 62) ha2.1 (by decide)
      have z3 := frZ_tr z2 (fr2_Z f3)
      have ok : (sgn B n a2 = 60 ∨ sgn B n a2 = 62 ∨ sgn B n a2 = 61) → ((-2147483648 ≤ h3 1000 2 + 1 ∧ h3 1000 2 + 1 ≤ 2147483647) ∧ m_Model_qSums [1000] (og_up h3 1000 2 (h3 1000 2 + 1)) (fun _ h1 => (bt B n (tS B n a2) = 60 → m_Model_qCode [1000, 7] h1 (fun _ h' => K 0 h')) ∧ (¬ bt B n (tS B n a2) = 60 → (bt B n (tS B n a2) = 62 → m_Model_qCode [1000, 8] h1 (fun _ h' => K 0 h')) ∧ (¬ bt B n (tS B n a2) = 62 → m_Model_qCode [1000, 9] h1 (fun _ h' => K 0 h'))))) := by
        intro hs
        rw [if_pos hs] at hT hF
        rw [v3]
        have sg := sgn_go (B := B) (n := n) (a := a2) (by omega)
        refine ⟨by omega, ?_⟩
        have r4 : refS (og_up h3 1000 2 (tS B n a2 + 1)) B n (tE B n a2) := refS_sgn (x := sgn B n a2) (by rcases hs with e | e | e <;> rw [e] <;> decide) rfl r3 ⟨by rw [og_up_k (by decide)]; exact r3.1.1, by rw [og_up_k (by decide)]; exact r3.1.2⟩ og_up_eq (og_up_k (by decide))
        have f4 : ∀ i k, ¬ (i = 1000 ∧ k = 2) → og_up h3 1000 2 (tS B n a2 + 1) i k = h2 i k := fun i k p => by
          unfold og_up
          rw [if_neg p]
          exact f3 i k p
        have z4 := frZ_tr z2 (fr2_Z f4)
        have hq4 := qB_at hq2 r4 (by omega) (fun i k hi => f4 i k (by omega))
        have hbt : bt B n (tS B n a2) = sgn B n a2 := by
          rcases hs with e | e | e
          · rw [e]; exact s60.mp e
          · rw [e]; exact s62.mp e
          · rw [e]; exact s61.mp e
        rw [hbt]
        have share : ∀ (P : Int → Prop) , (∀ v, dc v = -1 - sgn B n a2 → okc v → P v) → (sgn B n a2 = 60 → P 7) ∧ (¬ sgn B n a2 = 60 → (sgn B n a2 = 62 → P 8) ∧ (¬ sgn B n a2 = 62 → P 9)) := fun P hP => ⟨fun e => hP 7 (by rw [e]; decide) (by unfold okc; omega), fun e1 => ⟨fun e => hP 8 (by rw [e]; decide) (by unfold okc; omega), fun e => hP 9 (by rw [show sgn B n a2 = 61 by omega]; decide) (by unfold okc; omega)⟩⟩
        refine r_qSums (pu := pu) (b := b) (by rw [z4 _ _ (by decide) (by decide) (by decide)]; exact hk) (txM_Z ht z4) hW hq4 (by rw [f4 _ _ (by decide)]; exact b2) (fun h5 a5 c5 e5 hq5 b5 f5 => ?_) (fun h5 z e5 l5 f5 => ?_)
        · rw [e5] at hT
          have ad := adv_gS (B := B) (n := n) (pu := pu) (6 - o).toNat (tE B n a2) c2 (by omega) te2
          rw [e5] at ad
          have ad3 : (c5.length : Int) + tE B n a2 ≤ c2.length + a5 := ad.2.2
          have hl2 := hq2.2.2.2.2.1
          have hl5 := hq5.2.2.2.2.1
          have ha5 := hq5.1.2.1
          refine share (fun v => m_Model_qCode [1000, v] h5 (fun _ h' => K 0 h')) (fun v hv ov => ?_)
          refine r_qCode hq5.2.1 (by omega) ov (fun h6 c6 f6 => ?_)
          rw [hv] at c6
          refine hT h6 a5 _ rfl ⟨refS_fr hq5.1 (fun k hk => f6 _ _ (by decide) (by omega)), c6, stM_fr hq5.2.2.1 (fun i k hi => f6 i k (by omega) (by omega)), by rw [f6 _ _ (by decide) (by decide)]; exact hq5.2.2.2.1, by rw [List.length_append]; simp; omega, hq5.2.2.2.2.2⟩ (by rw [f6 _ _ (by decide) (by decide)]; exact b5) (frZ_tr z4 (frZ_tr f5 (fun i k p q r => f6 i k p (by omega))))
        · rw [e5] at hF
          refine share (fun v => m_Model_qCode [1000, v] h5 (fun _ h' => K 0 h')) (fun v hv ov => ?_)
          refine r_qCodeF (m := 1601) l5.2 (by decide) (fun h6 _ f6 => hF h6 z rfl ⟨by rw [f6 _ _ (by decide) (by decide)]; exact l5.1.1, by rw [f6 _ _ (by decide) (by decide)]; exact l5.1.2.1, l5.1.2.2⟩ (frZ_tr z4 (frZ_tr f5 (fun i k p q r => f6 i k p (by omega)))))
      by_cases hs : sgn B n a2 = 60 ∨ sgn B n a2 = 62 ∨ sgn B n a2 = 61
      · have := ok hs
        refine ⟨fun x60 => ⟨fun x62 => ⟨fun x61 => ?_, fun _ => this⟩, fun _ => this⟩, fun _ => this⟩
        exact absurd hs (fun q => q.elim (fun e => x60 (s60.mp e)) (fun q => q.elim (fun e => x62 (s62.mp e)) (fun e => x61 (s61.mp e))))
      · rw [if_neg hs] at hF
        refine ⟨fun x60 => ⟨fun x62 => ⟨fun x61 => ?_, fun x => absurd (Or.inr (Or.inr (s61.mpr (by simpa using x)))) hs⟩, fun x => absurd (Or.inr (Or.inl (s62.mpr (by simpa using x)))) hs⟩, fun x => absurd (Or.inl (s60.mpr (by simpa using x))) hs⟩
        rw [v3]
        exact r_fail r3.1.1 (by decide) (fun h4 l4 f4 => hF h4 (1, tS B n a2) rfl l4 (frZ_tr z3 (fr5_Z f4)))
    · rw [e2] at hF
      have h5 : h2 1000 5 ≠ 0 := by rw [l2.1.1]; exact l2.1.2.2
      exact ⟨fun _ => hF h2 z rfl l2.1 (frZ_tr z1 f2), fun q => absurd h5 q⟩
theorem r_qDropsNots (hs : stM h V) (hc : cdM h c) (h5 : h 1000 5 = 0) (h94 : h 1000 94 = o) (ho : -4000 ≤ o - V.length ∧ o ≤ 6) (hl : (c.length : Int) + V.length ≤ 1600) (hK : ∀ h' c' V' o', dN V c o = (c', V', o') → stM h' V' → cdM h' c' → h' 1000 94 = o' → ((c'.length : Int) + V'.length = c.length + V.length ∧ o' - V'.length = o - V.length ∧ (∀ v ∈ V', v ∈ V) ∧ V'.length ≤ V.length) → (∀ i k, i ≠ 1070 → ¬ (i = 1000 ∧ (k = 91 ∨ k = 93 ∨ k = 94)) → h' i k = h i k) → K 0 h') : m_Model_qDropsNots [1000] h K := by
  unfold m_Model_qDropsNots
  simp -implicitDefEqProofs only [↓dn_den, ↓dn_loc, ↓dn_k, ↓dn_add, ↓dn_sub, ↓dn_mul, ↓dn_div, ↓dn_rem, ↓dn_bop, ↓dn_ladd, ↓dn_lsub, ↓dn_lmul, ↓dn_ldiv, ↓dn_lrem, ↓dn_land, ↓dn_l2i, ↓dn_neg, ↓dn_get, ↓dn_fix, ↓dn_ald, ↓dn_gld, ↓dn_yld, ↓dn_len, ↓dn_gln, ↓dn_cc, ↓dn_cb, ↓dn_and, ↓dn_or, ↓dn_not, ↓dn_cite, ↓dn_ec, ↓dn_ei, ↓dn_skip, ↓dn_seq, ↓dn_set, ↓dn_inc, ↓dn_putf, ↓dn_putz, ↓dn_ast, ↓dn_exp, ↓dn_if, ↓dn_ret, ↓dn_retz, ↓dn_retv, ↓dn_brk, ↓dn_cont, ↓dn_cs, ↓dn_sw, ↓dn_pop32, ↓dn_pop64, ↓dn_aop, ↓dn_call, ↓dn_max, ↓dn_min, ↓dn_acp, ↓dn_i2l, ↓dn_args0, ↓dn_args1, og_pad, og_ent, og_rlt, og_rle, og_rgt, og_rge, og_req, og_rne, og_padd, og_psub, og_pmul, List.getD_cons_zero, List.getD_cons_succ, List.set_cons_zero, List.set_cons_succ, List.length_cons, List.length_nil, List.cons_append, List.nil_append, List.replicate, List.append_nil, Nat.reduceAdd, Nat.reduceSub, Nat.reduceEqDiff, if_true, if_false, reduceIte, Int.reduceAdd, Int.reduceSub, Int.reduceMul, Int.reduceNeg, Int.reduceLT, Int.reduceLE, Int.cast_ofNat_Int, true_or, or_true, true_and, and_true, false_and, List.mem_cons, List.not_mem_nil, or_false, false_or, ne_eq]
  refine og_loop V.length (fun i e2 h2 => e2 = [1000] ∧ ∃ c2 V2 o2, dN V c o = dN V2 c2 o2 ∧ (V2.length + i = V.length ∧ (c2.length : Int) + V2.length = c.length + V.length ∧ o2 - V2.length = o - V.length ∧ ∀ v ∈ V2, v ∈ V) ∧ stM h2 V2 ∧ cdM h2 c2 ∧ h2 1000 94 = o2 ∧ (∀ i k, i ≠ 1070 → ¬ (i = 1000 ∧ (k = 91 ∨ k = 93 ∨ k = 94)) → h2 i k = h i k)) ⟨rfl, c, V, o, rfl, ⟨by omega, by omega, by omega, fun _ h => h⟩, hs, hc, h94, fun _ _ _ _ => rfl⟩ ?_
  rintro i e2 h2 hi ⟨rfl, c2, V2, o2, e, ⟨g1, g2, g3, g4⟩, s2, d2, o94, f2⟩
  simp -implicitDefEqProofs only [↓dn_den, ↓dn_loc, ↓dn_k, ↓dn_add, ↓dn_sub, ↓dn_mul, ↓dn_div, ↓dn_rem, ↓dn_bop, ↓dn_ladd, ↓dn_lsub, ↓dn_lmul, ↓dn_ldiv, ↓dn_lrem, ↓dn_land, ↓dn_l2i, ↓dn_neg, ↓dn_get, ↓dn_fix, ↓dn_ald, ↓dn_gld, ↓dn_yld, ↓dn_len, ↓dn_gln, ↓dn_cc, ↓dn_cb, ↓dn_and, ↓dn_or, ↓dn_not, ↓dn_cite, ↓dn_ec, ↓dn_ei, ↓dn_skip, ↓dn_seq, ↓dn_set, ↓dn_inc, ↓dn_putf, ↓dn_putz, ↓dn_ast, ↓dn_exp, ↓dn_if, ↓dn_ret, ↓dn_retz, ↓dn_retv, ↓dn_brk, ↓dn_cont, ↓dn_cs, ↓dn_sw, ↓dn_pop32, ↓dn_pop64, ↓dn_aop, ↓dn_call, ↓dn_max, ↓dn_min, ↓dn_acp, ↓dn_i2l, ↓dn_args0, ↓dn_args1, og_pad, og_ent, og_rlt, og_rle, og_rgt, og_rge, og_req, og_rne, og_padd, og_psub, og_pmul, List.getD_cons_zero, List.getD_cons_succ, List.set_cons_zero, List.set_cons_succ, List.length_cons, List.length_nil, List.cons_append, List.nil_append, List.replicate, List.append_nil, Nat.reduceAdd, Nat.reduceSub, Nat.reduceEqDiff, if_true, if_false, reduceIte, Int.reduceAdd, Int.reduceSub, Int.reduceMul, Int.reduceNeg, Int.reduceLT, Int.reduceLE, Int.cast_ofNat_Int, true_or, or_true, true_and, and_true, false_and, List.mem_cons, List.not_mem_nil, or_false, false_or, ne_eq, og_i32]
  have h25 : h2 1000 5 = 0 := by rw [f2 _ _ (by decide) (by decide)]; exact h5
  refine ⟨fun _ => ?_, fun z => absurd h25 z⟩
  refine r_qIsOnC (by decide) s2 (by omega) (fun z => ?_) (fun z => ?_)
  · cases V2 with
    | nil => exact absurd z (by decide)
    | cons v V2 =>
      have hv : v = 12 := z
      subst hv
      simp only [List.length_cons] at g1 g2 g3
      rw [o94]
      refine ⟨by omega, ?_⟩
      refine r_qDrops (h := og_up h2 1000 94 (o2 - 1)) (c := c2) (stM_fr s2 (fun i k hi => by unfold og_up; exact if_neg (by omega))) (cdM_fr d2 (fun i k hi => by unfold og_up; exact if_neg (by omega))) (by omega) (by unfold okc; omega) (fun h3 s4 c4 f4 => og_nx_mk (by omega) ⟨rfl, c2 ++ [dc 12], V2, o2 - 1, by rw [e, dN_hi]; rfl, ⟨by omega, by rw [List.length_append]; simp; omega, by omega, fun x hx => g4 x (List.mem_cons_of_mem _ hx)⟩, s4, c4, by rw [f4 _ _ (by decide) (by decide), og_up_eq], fun i k hi hk => ?_⟩)
      rw [f4 i k hi (by omega)]
      unfold og_up
      rw [if_neg (by omega)]
      exact f2 i k hi hk
  · refine hK h2 c2 V2 o2 ?_ s2 d2 o94 ⟨g2, g3, g4, by omega⟩ f2
    rw [e]
    refine dN_id ?_
    cases V2 with
    | nil => exact trivial
    | cons v V2 => exact z
theorem r_qDropsNotsF (h5 : h 1000 5 ≠ 0) (hK : K 0 h) : m_Model_qDropsNots [1000] h K := by
  unfold m_Model_qDropsNots
  simp -implicitDefEqProofs only [↓dn_den, ↓dn_loc, ↓dn_k, ↓dn_add, ↓dn_sub, ↓dn_mul, ↓dn_div, ↓dn_rem, ↓dn_bop, ↓dn_ladd, ↓dn_lsub, ↓dn_lmul, ↓dn_ldiv, ↓dn_lrem, ↓dn_land, ↓dn_l2i, ↓dn_neg, ↓dn_get, ↓dn_fix, ↓dn_ald, ↓dn_gld, ↓dn_yld, ↓dn_len, ↓dn_gln, ↓dn_cc, ↓dn_cb, ↓dn_and, ↓dn_or, ↓dn_not, ↓dn_cite, ↓dn_ec, ↓dn_ei, ↓dn_skip, ↓dn_seq, ↓dn_set, ↓dn_inc, ↓dn_putf, ↓dn_putz, ↓dn_ast, ↓dn_exp, ↓dn_if, ↓dn_ret, ↓dn_retz, ↓dn_retv, ↓dn_brk, ↓dn_cont, ↓dn_cs, ↓dn_sw, ↓dn_pop32, ↓dn_pop64, ↓dn_aop, ↓dn_call, ↓dn_max, ↓dn_min, ↓dn_acp, ↓dn_i2l, ↓dn_args0, ↓dn_args1, og_pad, og_ent, og_rlt, og_rle, og_rgt, og_rge, og_req, og_rne, og_padd, og_psub, og_pmul, List.getD_cons_zero, List.getD_cons_succ, List.set_cons_zero, List.set_cons_succ, List.length_cons, List.length_nil, List.cons_append, List.nil_append, List.replicate, List.append_nil, Nat.reduceAdd, Nat.reduceSub, Nat.reduceEqDiff, if_true, if_false, reduceIte, Int.reduceAdd, Int.reduceSub, Int.reduceMul, Int.reduceNeg, Int.reduceLT, Int.reduceLE, Int.cast_ofNat_Int, true_or, or_true, true_and, and_true, false_and, List.mem_cons, List.not_mem_nil, or_false, false_or, ne_eq]
  refine og_loop 0 (fun i e2 h2 => e2 = [1000] ∧ h2 = h) ⟨rfl, rfl⟩ ?_
  rintro i e2 h2 hi ⟨rfl, rfl⟩
  simp -implicitDefEqProofs only [↓dn_den, ↓dn_loc, ↓dn_k, ↓dn_add, ↓dn_sub, ↓dn_mul, ↓dn_div, ↓dn_rem, ↓dn_bop, ↓dn_ladd, ↓dn_lsub, ↓dn_lmul, ↓dn_ldiv, ↓dn_lrem, ↓dn_land, ↓dn_l2i, ↓dn_neg, ↓dn_get, ↓dn_fix, ↓dn_ald, ↓dn_gld, ↓dn_yld, ↓dn_len, ↓dn_gln, ↓dn_cc, ↓dn_cb, ↓dn_and, ↓dn_or, ↓dn_not, ↓dn_cite, ↓dn_ec, ↓dn_ei, ↓dn_skip, ↓dn_seq, ↓dn_set, ↓dn_inc, ↓dn_putf, ↓dn_putz, ↓dn_ast, ↓dn_exp, ↓dn_if, ↓dn_ret, ↓dn_retz, ↓dn_retv, ↓dn_brk, ↓dn_cont, ↓dn_cs, ↓dn_sw, ↓dn_pop32, ↓dn_pop64, ↓dn_aop, ↓dn_call, ↓dn_max, ↓dn_min, ↓dn_acp, ↓dn_i2l, ↓dn_args0, ↓dn_args1, og_pad, og_ent, og_rlt, og_rle, og_rgt, og_rge, og_req, og_rne, og_padd, og_psub, og_pmul, List.getD_cons_zero, List.getD_cons_succ, List.set_cons_zero, List.set_cons_succ, List.length_cons, List.length_nil, List.cons_append, List.nil_append, List.replicate, List.append_nil, Nat.reduceAdd, Nat.reduceSub, Nat.reduceEqDiff, if_true, if_false, reduceIte, Int.reduceAdd, Int.reduceSub, Int.reduceMul, Int.reduceNeg, Int.reduceLT, Int.reduceLE, Int.cast_ofNat_Int, true_or, or_true, true_and, and_true, false_and, List.mem_cons, List.not_mem_nil, or_false, false_or, ne_eq]
  exact ⟨fun z => absurd z h5, fun _ => hK⟩
theorem hSq_ex : hSq V = true ↔ ∃ j, j < V.length ∧ V.getD j 0 = 25 := by
  induction V with
  | nil => simp [hSq]
  | cons v V ih =>
    unfold hSq at ih ⊢
    rw [List.any_cons, Bool.or_eq_true, ih]
    constructor
    · rintro (z | ⟨j, h1, h2⟩)
      · unfold isSq at z
        exact ⟨0, by simp, by simpa using z⟩
      · exact ⟨j + 1, by simp; omega, by simpa using h2⟩
    · rintro ⟨j, h1, h2⟩
      cases j with
      | zero =>
        left
        unfold isSq
        simpa using h2
      | succ j => exact Or.inr ⟨j, by simp at h1; omega, by simpa using h2⟩
theorem r_qHasSquare {X Y : Hp → Prop} (hs : stM h V) (hl : V.length < 1700) (hX : hSq V = true → X h) (hY : hSq V = false → Y h) : m_Model_qHasSquare [1000] h (fun u h' => (¬ u = 0 → X h') ∧ (u = 0 → Y h')) := by
  unfold m_Model_qHasSquare
  refine ⟨fun e2 h2 => h2 = h ∧ hSq V = false, ?_, ?_⟩
  · simp -implicitDefEqProofs only [↓dn_den, ↓dn_loc, ↓dn_k, ↓dn_add, ↓dn_sub, ↓dn_mul, ↓dn_div, ↓dn_rem, ↓dn_bop, ↓dn_ladd, ↓dn_lsub, ↓dn_lmul, ↓dn_ldiv, ↓dn_lrem, ↓dn_land, ↓dn_l2i, ↓dn_neg, ↓dn_get, ↓dn_fix, ↓dn_ald, ↓dn_gld, ↓dn_yld, ↓dn_len, ↓dn_gln, ↓dn_cc, ↓dn_cb, ↓dn_and, ↓dn_or, ↓dn_not, ↓dn_cite, ↓dn_ec, ↓dn_ei, ↓dn_skip, ↓dn_seq, ↓dn_set, ↓dn_inc, ↓dn_putf, ↓dn_putz, ↓dn_ast, ↓dn_exp, ↓dn_if, ↓dn_ret, ↓dn_retz, ↓dn_retv, ↓dn_brk, ↓dn_cont, ↓dn_cs, ↓dn_sw, ↓dn_pop32, ↓dn_pop64, ↓dn_aop, ↓dn_call, ↓dn_max, ↓dn_min, ↓dn_acp, ↓dn_i2l, ↓dn_args0, ↓dn_args1, og_pad, og_ent, og_rlt, og_rle, og_rgt, og_rge, og_req, og_rne, og_padd, og_psub, og_pmul, List.getD_cons_zero, List.getD_cons_succ, List.set_cons_zero, List.set_cons_succ, List.length_cons, List.length_nil, List.cons_append, List.nil_append, List.replicate, List.append_nil, Nat.reduceAdd, Nat.reduceSub, Nat.reduceEqDiff, if_true, if_false, reduceIte, Int.reduceAdd, Int.reduceSub, Int.reduceMul, Int.reduceNeg, Int.reduceLT, Int.reduceLE, Int.cast_ofNat_Int, true_or, or_true, true_and, and_true, false_and, List.mem_cons, List.not_mem_nil, or_false, false_or, ne_eq]
    refine og_loop V.length (fun i e2 h2 => h2 = h ∧ e2 = [1000, (i : Int)] ∧ ∀ j : Nat, j < i → ¬ V.getD (V.length - 1 - j) 0 = 25) ⟨rfl, rfl, fun j hj => by omega⟩ ?_
    rintro i e2 h2 hi ⟨rfl, rfl, hj⟩
    simp -implicitDefEqProofs only [↓dn_den, ↓dn_loc, ↓dn_k, ↓dn_add, ↓dn_sub, ↓dn_mul, ↓dn_div, ↓dn_rem, ↓dn_bop, ↓dn_ladd, ↓dn_lsub, ↓dn_lmul, ↓dn_ldiv, ↓dn_lrem, ↓dn_land, ↓dn_l2i, ↓dn_neg, ↓dn_get, ↓dn_fix, ↓dn_ald, ↓dn_gld, ↓dn_yld, ↓dn_len, ↓dn_gln, ↓dn_cc, ↓dn_cb, ↓dn_and, ↓dn_or, ↓dn_not, ↓dn_cite, ↓dn_ec, ↓dn_ei, ↓dn_skip, ↓dn_seq, ↓dn_set, ↓dn_inc, ↓dn_putf, ↓dn_putz, ↓dn_ast, ↓dn_exp, ↓dn_if, ↓dn_ret, ↓dn_retz, ↓dn_retv, ↓dn_brk, ↓dn_cont, ↓dn_cs, ↓dn_sw, ↓dn_pop32, ↓dn_pop64, ↓dn_aop, ↓dn_call, ↓dn_max, ↓dn_min, ↓dn_acp, ↓dn_i2l, ↓dn_args0, ↓dn_args1, og_pad, og_ent, og_rlt, og_rle, og_rgt, og_rge, og_req, og_rne, og_padd, og_psub, og_pmul, List.getD_cons_zero, List.getD_cons_succ, List.set_cons_zero, List.set_cons_succ, List.length_cons, List.length_nil, List.cons_append, List.nil_append, List.replicate, List.append_nil, Nat.reduceAdd, Nat.reduceSub, Nat.reduceEqDiff, if_true, if_false, reduceIte, Int.reduceAdd, Int.reduceSub, Int.reduceMul, Int.reduceNeg, Int.reduceLT, Int.reduceLE, Int.cast_ofNat_Int, true_or, or_true, true_and, and_true, false_and, List.mem_cons, List.not_mem_nil, or_false, false_or, ne_eq, og_i32]
    rw [hs.1]
    refine ⟨fun z => ?_, fun z => ?_⟩
    · rw [hs.2 i (by omega)]
      refine ⟨by omega, by omega, fun q => ?_, fun q => ⟨by omega, og_nx_mk (by omega) ⟨rfl, by simp, fun j hjj => ?_⟩⟩⟩
      · have := hX (hSq_ex.mpr ⟨V.length - 1 - i, by omega, q⟩)
        simp
        exact this
      · by_cases e : j = i
        · subst e; exact q
        · exact hj j (by omega)
    · have e : i = V.length := by omega
      subst e
      have nf : hSq V = false := by
        by_cases q : hSq V = true
        · obtain ⟨j, h1, h2⟩ := hSq_ex.mp q
          exact absurd (by rw [show V.length - 1 - (V.length - 1 - j) = j by omega]; exact h2) (hj (V.length - 1 - j) (by omega))
        · simpa using q
      first | exact ⟨rfl, nf⟩ | exact nf
  · rintro e2 h2 ⟨rfl, nf⟩
    simp -implicitDefEqProofs only [↓dn_den, ↓dn_loc, ↓dn_k, ↓dn_add, ↓dn_sub, ↓dn_mul, ↓dn_div, ↓dn_rem, ↓dn_bop, ↓dn_ladd, ↓dn_lsub, ↓dn_lmul, ↓dn_ldiv, ↓dn_lrem, ↓dn_land, ↓dn_l2i, ↓dn_neg, ↓dn_get, ↓dn_fix, ↓dn_ald, ↓dn_gld, ↓dn_yld, ↓dn_len, ↓dn_gln, ↓dn_cc, ↓dn_cb, ↓dn_and, ↓dn_or, ↓dn_not, ↓dn_cite, ↓dn_ec, ↓dn_ei, ↓dn_skip, ↓dn_seq, ↓dn_set, ↓dn_inc, ↓dn_putf, ↓dn_putz, ↓dn_ast, ↓dn_exp, ↓dn_if, ↓dn_ret, ↓dn_retz, ↓dn_retv, ↓dn_brk, ↓dn_cont, ↓dn_cs, ↓dn_sw, ↓dn_pop32, ↓dn_pop64, ↓dn_aop, ↓dn_call, ↓dn_max, ↓dn_min, ↓dn_acp, ↓dn_i2l, ↓dn_args0, ↓dn_args1, og_pad, og_ent, og_rlt, og_rle, og_rgt, og_rge, og_req, og_rne, og_padd, og_psub, og_pmul, List.getD_cons_zero, List.getD_cons_succ, List.set_cons_zero, List.set_cons_succ, List.length_cons, List.length_nil, List.cons_append, List.nil_append, List.replicate, List.append_nil, Nat.reduceAdd, Nat.reduceSub, Nat.reduceEqDiff, if_true, if_false, reduceIte, Int.reduceAdd, Int.reduceSub, Int.reduceMul, Int.reduceNeg, Int.reduceLT, Int.reduceLE, Int.cast_ofNat_Int, true_or, or_true, true_and, and_true, false_and, List.mem_cons, List.not_mem_nil, or_false, false_or, ne_eq]
    have := hY nf
    simp
    exact this
end
end
