section
-- the reference: parish
section
variable {q h h' : Hp} {A : Yd} {P : Pr} {U : List Yd} {X : Yd} {n M : Int} {K : Int → Hp → Prop}
theorem hasM_fr2 (hm : hasM h P) (hf : ∀ i k, (((i = 1034 ∨ i = 1035) ∧ 5 ≤ k) ∨ (i = 1036 ∧ 1600 ≤ k)) → h' i k = h i k) : hasM h' P := fun w w0 w1 => by
  rcases hm w w0 w1 with ⟨a, b⟩ | ⟨a, b, c, d⟩
  · exact Or.inl ⟨by rw [hf _ _ (by omega)]; exact a, b⟩
  · refine Or.inr ⟨?_, ?_, ?_, fun j hj => ?_⟩
    · rw [hf _ _ (by omega)]; exact a
    · rw [hf _ _ (by omega), hf _ _ (by omega)]; exact b
    · rw [hf _ _ (by omega)]; exact c
    · rw [hf 1034 _ (by omega), hf _ _ (by omega)]; exact d j hj
def frN (h h' : Hp) : Prop := ∀ i k, ¬ (i = 1070 ∨ i = 1071 ∨ i = 1072 ∨ i = 1032 ∨ i = 1033 ∨ (i = 1028 ∧ k < 2) ∨ (i = 1029 ∧ k < 16) ∨ (i = 1030 ∧ k < 6) ∨ (i = 1031 ∧ k < 8) ∨ ((i = 1034 ∨ i = 1035) ∧ k < 5) ∨ (i = 1036 ∧ k < 1600) ∨ (i = 1000 ∧ (k = 1 ∨ k = 2 ∨ k = 3 ∨ k = 4 ∨ k = 5 ∨ k = 6 ∨ k = 7 ∨ k = 8 ∨ k = 10 ∨ k = 36 ∨ k = 46 ∨ k = 47 ∨ k = 48 ∨ k = 51 ∨ k = 91 ∨ k = 93 ∨ k = 94 ∨ k = 95 ∨ k = 97 ∨ k = 98 ∨ k = 99))) → h' i k = h i k
theorem frN_tr {h h1 h2 : Hp} (a : frN h h1) (b : frN h1 h2) : frN h h2 := fun i k p => (b i k p).trans (a i k p)
theorem frW_N {h h' : Hp} (a : frW h h') : frN h h' := fun i k p => a i k (by omega)
theorem relM_ft {k p : Int} (ho : okY A) (hr : relM q h M A P U X) (hf : frN h h') (h7 : h' 1000 7 = k) (h8 : h' 1000 8 = p) (h1 : h' 1000 1 = 0) : relM q h' M A P U (sFt X k p) := by
  obtain ⟨⟨y, z, t⟩, u, ⟨a, b, c, d, ⟨e1, e2, e3⟩, ⟨g1, g2⟩, ⟨n1, n2⟩, w⟩, f⟩ := hr
  have z' : h' 1000 53 = 0 := (hf _ _ (by omega)).trans z
  obtain ⟨ir, im⟩ := isN_row y z
  have ir' : isRow (h' 1037) A := isRow_congr ho ir (fun k _ _ => hf _ _ (by omega))
  have im' : parM h' A := ⟨by rw [hf _ _ (by omega)]; exact im.1, by rw [hf _ _ (by omega)]; exact im.2.1, fun k k0 k1 => by rw [hf _ _ (by omega)]; exact im.2.2.1 k k0 k1, fun k k0 k1 => by rw [hf _ _ (by omega)]; exact im.2.2.2 k k0 k1⟩
  refine ⟨⟨row_isN ir' im', z', by unfold tmB; rw [hf _ _ (by omega)]; exact t⟩, pastM_fr u (fun i k hi => hf i k (by omega)), ⟨hasM_fr2 a (fun i k hi => hf i k (by omega)), ⟨?_, fun j j0 j1 => ?_⟩, ⟨h1, fun j j0 j1 => ?_⟩, fun j j0 j1 => ?_, ⟨?_, h7, h8⟩, ⟨?_, fun j j0 j1 => ?_⟩, ⟨fun j j0 j1 => ?_, fun j j0 j1 => ?_⟩, fun v hv j hj => ?_⟩, fun i j hi => (hf i j (by omega)).trans (f i j hi)⟩
  · rw [hf _ _ (by omega)]; exact b.1
  · rw [hf _ _ (by omega)]; exact b.2 j j0 j1
  · have j1 : j < 0 := j1
    omega
  · rw [hf _ _ (by omega)]; exact d j j0 j1
  · rw [hf _ _ (by omega)]; exact e1
  · rw [hf _ _ (by omega)]; exact g1
  · rw [hf _ _ (by omega)]; exact g2 j j0 j1
  · rw [hf _ _ (by omega)]; exact n1 j j0 j1
  · rw [hf _ _ (by omega)]; exact n2 j j0 j1
  · rw [hf _ _ (by omega)]; exact w v hv j hj
theorem txM_rel (hr : relM q h M A P U X) (hx : okX n A P U X) (h3 : h' 1000 3 = X 0 1) (hf : ∀ i k, (i = 1001 ∨ (1003 ≤ i ∧ i ≤ 1027) ∨ (1048 ≤ i ∧ i ≤ 1069)) → h' i k = h i k) : txM h' (X 2) (X 0 1) := by
  have r := hr.2.2.1
  refine ⟨h3, fun j j0 j1 => by rw [hf _ _ (by omega)]; exact r.2.2.1.2 j j0 j1, ⟨hx.2.2.2.2.1.1.1, hx.2.2.2.2.1.1.2, hx.2.2.2.2.1.2⟩, fun w hw j hj => ?_⟩
  have hw' := hw
  unfold idW at hw'
  rw [hf _ _ (by omega)]
  exact r.2.2.2.2.2.2.2 w hw j hj
theorem gpo_0 {B : Int → Int} {n : Int} : gpo B n 0 := by
  have e : bt B n (0 - 1) = -1 := if_neg (by omega)
  unfold gpo
  rw [e]
  exact ⟨fun z => (by cases z), fun z => (by cases z)⟩
theorem refS_0 {B : Int → Int} {n : Int} (hn : 0 ≤ n) (h2 : h 1000 2 = 0) (h4 : h 1000 4 = -1) (h5 : h 1000 5 = 0) (h6 : h 1000 6 = -1) : refS h B n 0 := by
  have e : bt B n (0 - 1) = -1 := if_neg (by omega)
  refine ⟨⟨h5, h6⟩, ⟨Int.le_refl _, hn⟩, gpo_0, ⟨by omega, by rw [h2]; exact (tS_sp B n 0).1⟩, by omega, ?_⟩
  rw [e, h4]
  exact ⟨fun z => by omega, fun z => by cases z⟩
/-- what the reference reads, and how many statements -/
theorem r_pLoop {B : Int → Int} {n : Int} {KK : List Int → Hp → Prop} {R : Int → Hp → Prop} {Bk Ct : List Int → Hp → Prop} {x : Int} (ht : txM h B n) (hs : stR h B n (.inl (0, (fun _ _ => 0), (fun _ => [])))) (h47 : h 1000 47 = 0)
    (hK : ∀ h' r, stR h' B n r → frW h h' → (∀ s, r = .inl s → okD n s ∧ pTx B n = .inl (h' 1000 47, s.2)) → (∀ z, r = .inr z → pTx B n = .inr z) → KK [1000, x] h') :
    og_while (og_and (og_cc og_req (og_get 5 (og_loc 0)) (og_k 0)) (og_cc og_rne (og_call m_Model_look [og_loc 0]) (og_k (-1)))) (og_exp (og_call m_Model_statementTold [og_loc 0])) (og_skip) [1000, x] h KK R Bk Ct := by
  have hn := ht.2.2.1
  refine og_loop 1600 (fun i e1 h1 => ∃ r, e1 = [1000, x] ∧ stR h1 B n r ∧ frW h h1 ∧ h1 1000 47 = (i : Int) ∧ (∀ s, r = .inl s → okD n s ∧ (i : Int) ≤ s.1 ∧ pAll B n (1601 - i) i s = pTx B n) ∧ (∀ z, r = .inr z → pTx B n = .inr z)) ⟨.inl (0, (fun _ _ => 0), (fun _ => [])), rfl, hs, frW_rf, h47, fun s e => by
    have e := Sum.inl.inj e
    subst e
    exact ⟨okD_0 hn.1, Int.le_refl _, rfl⟩, fun z e => by cases e⟩ ?_
  rintro i e1 h1 hi ⟨r, rfl, s1, f1, c1, g1, g2⟩
  simp -implicitDefEqProofs only [↓dn_den, ↓dn_loc, ↓dn_k, ↓dn_add, ↓dn_sub, ↓dn_mul, ↓dn_div, ↓dn_rem, ↓dn_bop, ↓dn_ladd, ↓dn_lsub, ↓dn_lmul, ↓dn_ldiv, ↓dn_lrem, ↓dn_land, ↓dn_l2i, ↓dn_neg, ↓dn_get, ↓dn_fix, ↓dn_ald, ↓dn_gld, ↓dn_yld, ↓dn_len, ↓dn_gln, ↓dn_cc, ↓dn_cb, ↓dn_and, ↓dn_or, ↓dn_not, ↓dn_cite, ↓dn_ec, ↓dn_ei, ↓dn_skip, ↓dn_seq, ↓dn_set, ↓dn_inc, ↓dn_putf, ↓dn_putz, ↓dn_ast, ↓dn_exp, ↓dn_if, ↓dn_ret, ↓dn_retz, ↓dn_retv, ↓dn_brk, ↓dn_cont, ↓dn_cs, ↓dn_sw, ↓dn_pop32, ↓dn_pop64, ↓dn_aop, ↓dn_call, ↓dn_max, ↓dn_min, ↓dn_acp, ↓dn_i2l, ↓dn_args0, ↓dn_args1, og_pad, og_ent, og_rlt, og_rle, og_rgt, og_rge, og_req, og_rne, og_padd, og_psub, og_pmul, List.getD_cons_zero, List.getD_cons_succ, List.set_cons_zero, List.set_cons_succ, List.length_cons, List.length_nil, List.cons_append, List.nil_append, List.replicate, List.append_nil, Nat.reduceAdd, Nat.reduceSub, Nat.reduceEqDiff, if_true, if_false, reduceIte, Int.reduceAdd, Int.reduceSub, Int.reduceMul, Int.reduceNeg, Int.reduceLT, Int.reduceLE, Int.cast_ofNat_Int, true_or, or_true, true_and, and_true, false_and, List.mem_cons, List.not_mem_nil, or_false, false_or, ne_eq]
  have ht1 := txM_W ht f1
  cases r with
  | inr z =>
    have h15 : h1 1000 5 ≠ 0 := by rw [s1.1]; exact s1.2.2
    exact ⟨fun y => absurd y h15, fun _ => hK h1 (.inr z) s1 f1 (fun s e => by cases e) g2⟩
  | inl s =>
    have g := g1 s rfl
    refine ⟨fun _ => ?_, fun y => absurd s1.1.1.1 y⟩
    refine r_look ht1 s1.1 (fun h2 r2 v2 f2 => ?_)
    have fx := frX_2 f2
    have d2 := drX s1.2 fx
    have F2 := frW_tr f1 (frX_W fx)
    have c2 : h2 1000 47 = i := by rw [fx _ _ (by omega)]; exact c1
    have ha := g.1.1
    have ts := (tS_sp B n s.1).1
    by_cases q : tS B n s.1 < n
    · have hb := hn.2.2 (tS B n s.1) (by omega) q
      rw [bt_in (by omega) q]
      refine ⟨fun _ => ?_, fun y => by omega⟩
      obtain ⟨a, D, R⟩ := s
      have nxt : pAll B n (1601 - i) i (a, D, R) = (match pSt B n (a, D, R) with
        | .inl s' => pAll B n (1600 - i) (i + 1) s'
        | .inr z => .inr z) := by
        rw [show 1601 - i = (1600 - i) + 1 by omega, pAll_s, if_pos q]
        cases pSt B n (a, D, R) <;> rfl
      dsimp only at ha ts q
      have gi := g.2.1
      dsimp only at gi
      refine r_statementTold (txM_W ht F2) r2 v2 d2 g.1 (by rw [c2]; omega) (fun h3 s3 e3 f3 => ?_)
      refine og_nx_mk (by omega) ⟨pSt B n (a, D, R), rfl, s3, frW_tr F2 f3, by rw [e3, c2]; omega, fun s e => ?_, fun z' e => ?_⟩
      · have ok := pSt_ok g.1 e
        refine ⟨ok.1, by have := ok.2; dsimp only at this; omega, ?_⟩
        rw [← g.2.2, nxt, e]
        rw [show 1601 - (i + 1) = 1600 - i by omega]
        simp
      · rw [← g.2.2, nxt, e]
    · rw [bt_no (by omega)]
      refine ⟨fun y => absurd (by trivial) y, fun _ => hK h2 (.inl s) ⟨r2, d2⟩ F2 (fun s' e => ?_) (fun z e => by cases e)⟩
      have e := Sum.inl.inj e
      subst e
      refine ⟨g.1, ?_⟩
      rw [← g.2.2, show 1601 - i = (1600 - i) + 1 by omega, pAll_s, if_neg q, c2]
set_option maxHeartbeats 400000 in
theorem m_parish (hn : n ≤ 1000000) (hr : relM q h M A P U X) (hx : okX n A P U X) (hK0 : ∀ z, pTx (X 2) (X 0 1) = .inr z → ∀ h', relM q h' M A P U (sRf (sFt X z.1 z.2) 1) → K (-1) h') (hK1 : ∀ w, pTx (X 2) (X 0 1) = .inl w → ∀ h', relM q h' M w.2.1 (fuP w.2.2) [] (sPx X w.2.1) → K w.1 h') : m_Model_parish [1000] h K := by
  have e1 := hr.2.2.1.2.2.1.1
  have x1 := hx.2.2.2.2.1
  unfold m_Model_parish
  simp -implicitDefEqProofs only [↓dn_den, ↓dn_loc, ↓dn_k, ↓dn_add, ↓dn_sub, ↓dn_mul, ↓dn_div, ↓dn_rem, ↓dn_bop, ↓dn_ladd, ↓dn_lsub, ↓dn_lmul, ↓dn_ldiv, ↓dn_lrem, ↓dn_land, ↓dn_l2i, ↓dn_neg, ↓dn_get, ↓dn_fix, ↓dn_ald, ↓dn_gld, ↓dn_yld, ↓dn_len, ↓dn_gln, ↓dn_cc, ↓dn_cb, ↓dn_and, ↓dn_or, ↓dn_not, ↓dn_cite, ↓dn_ec, ↓dn_ei, ↓dn_skip, ↓dn_seq, ↓dn_set, ↓dn_inc, ↓dn_putf, ↓dn_putz, ↓dn_ast, ↓dn_exp, ↓dn_if, ↓dn_ret, ↓dn_retz, ↓dn_retv, ↓dn_brk, ↓dn_cont, ↓dn_cs, ↓dn_sw, ↓dn_pop32, ↓dn_pop64, ↓dn_aop, ↓dn_call, ↓dn_max, ↓dn_min, ↓dn_acp, ↓dn_i2l, ↓dn_args0, ↓dn_args1, og_pad, og_ent, og_rlt, og_rle, og_rgt, og_rge, og_req, og_rne, og_padd, og_psub, og_pmul, List.getD_cons_zero, List.getD_cons_succ, List.set_cons_zero, List.set_cons_succ, List.length_cons, List.length_nil, List.cons_append, List.nil_append, List.replicate, List.append_nil, Nat.reduceAdd, Nat.reduceSub, Nat.reduceEqDiff, if_true, if_false, reduceIte, Int.reduceAdd, Int.reduceSub, Int.reduceMul, Int.reduceNeg, Int.reduceLT, Int.reduceLE, Int.cast_ofNat_Int, true_or, or_true, true_and, and_true, false_and, List.mem_cons, List.not_mem_nil, or_false, false_or, ne_eq, og_i32]
  rw [e1]
  have W : ∀ i k, ¬ ((i = 1000 ∧ (k = 3 ∨ k = 1 ∨ k = 2 ∨ k = 4 ∨ k = 5 ∨ k = 6 ∨ k = 46)) ∨ (i = 1028 ∧ (k = 0 ∨ k = 1))) → og_up (og_up (og_up (og_up (og_up (og_up (og_up (og_up (og_up h 1000 3 (X 0 1)) 1000 1 0) 1000 2 0) 1000 4 (-1)) 1000 5 0) 1000 6 (-1)) 1000 46 0) 1028 0 0) 1028 1 0 i k = h i k := fun i k hp => by
    unfold og_up
    rw [if_neg (by omega), if_neg (by omega), if_neg (by omega), if_neg (by omega), if_neg (by omega), if_neg (by omega), if_neg (by omega), if_neg (by omega), if_neg (by omega)]
  have V : ∀ i k, og_up (og_up (og_up (og_up (og_up (og_up (og_up (og_up (og_up h 1000 3 (X 0 1)) 1000 1 0) 1000 2 0) 1000 4 (-1)) 1000 5 0) 1000 6 (-1)) 1000 46 0) 1028 0 0) 1028 1 0 i k = if i = 1028 ∧ k = 1 then 0 else if i = 1028 ∧ k = 0 then 0 else if i = 1000 ∧ k = 46 then 0 else if i = 1000 ∧ k = 6 then -1 else if i = 1000 ∧ k = 5 then 0 else if i = 1000 ∧ k = 4 then -1 else if i = 1000 ∧ k = 2 then 0 else if i = 1000 ∧ k = 1 then 0 else if i = 1000 ∧ k = 3 then X 0 1 else h i k := fun i k => rfl
  generalize og_up (og_up (og_up (og_up (og_up (og_up (og_up (og_up (og_up h 1000 3 (X 0 1)) 1000 1 0) 1000 2 0) 1000 4 (-1)) 1000 5 0) 1000 6 (-1)) 1000 46 0) 1028 0 0) 1028 1 0 = h1 at W V
  have V3 : h1 1000 3 = X 0 1 := by rw [V]; simp
  have V1 : h1 1000 1 = 0 := by rw [V]; simp
  have V2 : h1 1000 2 = 0 := by rw [V]; simp
  have V4 : h1 1000 4 = -1 := by rw [V]; simp
  have V5 : h1 1000 5 = 0 := by rw [V]; simp
  have V6 : h1 1000 6 = -1 := by rw [V]; simp
  have V46 : h1 1000 46 = 0 := by rw [V]; simp
  have V80 : h1 1028 0 = 0 := by rw [V]; simp
  have V81 : h1 1028 1 = 0 := by rw [V]; simp
  clear V
  refine ⟨fun e2 h2 => (∃ x, e2 = [1000, x]) ∧ (∀ w, 0 ≤ w → w < 5 → h2 1034 w = -1) ∧ (∀ i k, ¬ (i = 1034 ∧ k < 5) → h2 i k = h1 i k), ?_, ?_⟩
  · simp -implicitDefEqProofs only [↓dn_den, ↓dn_loc, ↓dn_k, ↓dn_add, ↓dn_sub, ↓dn_mul, ↓dn_div, ↓dn_rem, ↓dn_bop, ↓dn_ladd, ↓dn_lsub, ↓dn_lmul, ↓dn_ldiv, ↓dn_lrem, ↓dn_land, ↓dn_l2i, ↓dn_neg, ↓dn_get, ↓dn_fix, ↓dn_ald, ↓dn_gld, ↓dn_yld, ↓dn_len, ↓dn_gln, ↓dn_cc, ↓dn_cb, ↓dn_and, ↓dn_or, ↓dn_not, ↓dn_cite, ↓dn_ec, ↓dn_ei, ↓dn_skip, ↓dn_seq, ↓dn_set, ↓dn_inc, ↓dn_putf, ↓dn_putz, ↓dn_ast, ↓dn_exp, ↓dn_if, ↓dn_ret, ↓dn_retz, ↓dn_retv, ↓dn_brk, ↓dn_cont, ↓dn_cs, ↓dn_sw, ↓dn_pop32, ↓dn_pop64, ↓dn_aop, ↓dn_call, ↓dn_max, ↓dn_min, ↓dn_acp, ↓dn_i2l, ↓dn_args0, ↓dn_args1, og_pad, og_ent, og_rlt, og_rle, og_rgt, og_rge, og_req, og_rne, og_padd, og_psub, og_pmul, List.getD_cons_zero, List.getD_cons_succ, List.set_cons_zero, List.set_cons_succ, List.length_cons, List.length_nil, List.cons_append, List.nil_append, List.replicate, List.append_nil, Nat.reduceAdd, Nat.reduceSub, Nat.reduceEqDiff, if_true, if_false, reduceIte, Int.reduceAdd, Int.reduceSub, Int.reduceMul, Int.reduceNeg, Int.reduceLT, Int.reduceLE, Int.cast_ofNat_Int, true_or, or_true, true_and, and_true, false_and, List.mem_cons, List.not_mem_nil, or_false, false_or, ne_eq]
    refine og_loop 5 (fun i e2 h2 => e2 = [1000, (i : Int)] ∧ (∀ w, 0 ≤ w → w < (i : Int) → h2 1034 w = -1) ∧ (∀ j k, ¬ (j = 1034 ∧ k < 5) → h2 j k = h1 j k)) ⟨rfl, fun w a b => by omega, fun _ _ _ => rfl⟩ ?_
    rintro i e2 h2 hi ⟨rfl, j1, j2⟩
    simp -implicitDefEqProofs only [↓dn_den, ↓dn_loc, ↓dn_k, ↓dn_add, ↓dn_sub, ↓dn_mul, ↓dn_div, ↓dn_rem, ↓dn_bop, ↓dn_ladd, ↓dn_lsub, ↓dn_lmul, ↓dn_ldiv, ↓dn_lrem, ↓dn_land, ↓dn_l2i, ↓dn_neg, ↓dn_get, ↓dn_fix, ↓dn_ald, ↓dn_gld, ↓dn_yld, ↓dn_len, ↓dn_gln, ↓dn_cc, ↓dn_cb, ↓dn_and, ↓dn_or, ↓dn_not, ↓dn_cite, ↓dn_ec, ↓dn_ei, ↓dn_skip, ↓dn_seq, ↓dn_set, ↓dn_inc, ↓dn_putf, ↓dn_putz, ↓dn_ast, ↓dn_exp, ↓dn_if, ↓dn_ret, ↓dn_retz, ↓dn_retv, ↓dn_brk, ↓dn_cont, ↓dn_cs, ↓dn_sw, ↓dn_pop32, ↓dn_pop64, ↓dn_aop, ↓dn_call, ↓dn_max, ↓dn_min, ↓dn_acp, ↓dn_i2l, ↓dn_args0, ↓dn_args1, og_pad, og_ent, og_rlt, og_rle, og_rgt, og_rge, og_req, og_rne, og_padd, og_psub, og_pmul, List.getD_cons_zero, List.getD_cons_succ, List.set_cons_zero, List.set_cons_succ, List.length_cons, List.length_nil, List.cons_append, List.nil_append, List.replicate, List.append_nil, Nat.reduceAdd, Nat.reduceSub, Nat.reduceEqDiff, if_true, if_false, reduceIte, Int.reduceAdd, Int.reduceSub, Int.reduceMul, Int.reduceNeg, Int.reduceLT, Int.reduceLE, Int.cast_ofNat_Int, true_or, or_true, true_and, and_true, false_and, List.mem_cons, List.not_mem_nil, or_false, false_or, ne_eq, og_i32]
    refine ⟨fun hlt => ⟨by omega, by omega, by omega, og_nx_mk (by omega) ⟨by simp, fun w w0 w1 => ?_, fun j k hp => ?_⟩⟩, fun hge => ⟨⟨_, rfl⟩, fun w w0 w1 => j1 w w0 (by omega), j2⟩⟩
    · by_cases e : w = i
      · subst e; exact og_up_eq
      · rw [og_up_k e]; exact j1 w w0 (by omega)
    · have : og_up h2 1034 (i : Int) (-1) j k = h2 j k := by unfold og_up; exact if_neg (by omega)
      rw [this]; exact j2 j k hp
  · rintro e2 h2 ⟨⟨x, rfl⟩, j1, j2⟩
    simp -implicitDefEqProofs only [↓dn_den, ↓dn_loc, ↓dn_k, ↓dn_add, ↓dn_sub, ↓dn_mul, ↓dn_div, ↓dn_rem, ↓dn_bop, ↓dn_ladd, ↓dn_lsub, ↓dn_lmul, ↓dn_ldiv, ↓dn_lrem, ↓dn_land, ↓dn_l2i, ↓dn_neg, ↓dn_get, ↓dn_fix, ↓dn_ald, ↓dn_gld, ↓dn_yld, ↓dn_len, ↓dn_gln, ↓dn_cc, ↓dn_cb, ↓dn_and, ↓dn_or, ↓dn_not, ↓dn_cite, ↓dn_ec, ↓dn_ei, ↓dn_skip, ↓dn_seq, ↓dn_set, ↓dn_inc, ↓dn_putf, ↓dn_putz, ↓dn_ast, ↓dn_exp, ↓dn_ret, ↓dn_retz, ↓dn_retv, ↓dn_brk, ↓dn_cont, ↓dn_cs, ↓dn_sw, ↓dn_pop32, ↓dn_pop64, ↓dn_aop, ↓dn_call, ↓dn_max, ↓dn_min, ↓dn_acp, ↓dn_i2l, ↓dn_args0, ↓dn_args1, og_pad, og_ent, og_rlt, og_rle, og_rgt, og_rge, og_req, og_rne, og_padd, og_psub, og_pmul, List.getD_cons_zero, List.getD_cons_succ, List.set_cons_zero, List.set_cons_succ, List.length_cons, List.length_nil, List.cons_append, List.nil_append, List.replicate, List.append_nil, Nat.reduceAdd, Nat.reduceSub, Nat.reduceEqDiff, if_true, if_false, reduceIte, Int.reduceAdd, Int.reduceSub, Int.reduceMul, Int.reduceNeg, Int.reduceLT, Int.reduceLE, Int.cast_ofNat_Int, true_or, or_true, true_and, and_true, false_and, List.mem_cons, List.not_mem_nil, or_false, false_or, ne_eq]
    have Y : ∀ i k, ¬ (i = 1000 ∧ k = 47) → og_up h2 1000 47 0 i k = h2 i k := fun i k hp => by unfold og_up; exact if_neg hp
    have Y47 : og_up h2 1000 47 0 1000 47 = 0 := og_up_eq
    generalize og_up h2 1000 47 0 = h3 at Y Y47
    have F3 : ∀ i k, ¬ (i = 1000 ∧ k = 47) → ¬ (i = 1034 ∧ k < 5) → h3 i k = h1 i k := fun i k p1 p2 => by rw [Y i k p1, j2 i k p2]
    have N3 : frN h h3 := fun i k hp => by rw [F3 i k (by omega) (by omega), W i k (by omega)]
    have ht3 : txM h3 (X 2) (X 0 1) := txM_rel hr hx (by rw [F3 _ _ (by omega) (by omega)]; exact V3) (fun i k hi => by rw [F3 i k (by omega) (by omega), W i k (by omega)])
    have s3 : stR h3 (X 2) (X 0 1) (.inl (0, (fun _ _ => 0), (fun _ => []))) := by
      refine ⟨refS_0 x1.1.1 ?_ ?_ ?_ ?_, ⟨?_, ?_⟩, fun k k0 k1 => ?_, fun k k0 k1 => ?_, [], by simp, ⟨?_, fun j hj => absurd hj (by simp)⟩, fun w w0 w1 => Or.inl ⟨rfl, ?_⟩⟩
      · rw [F3 _ _ (by omega) (by omega)]; exact V2
      · rw [F3 _ _ (by omega) (by omega)]; exact V4
      · rw [F3 _ _ (by omega) (by omega)]; exact V5
      · rw [F3 _ _ (by omega) (by omega)]; exact V6
      · rw [F3 _ _ (by omega) (by omega)]; exact V80
      · rw [F3 _ _ (by omega) (by omega)]; exact V81
      · dsimp only at k1; omega
      · dsimp only at k1; omega
      · rw [F3 _ _ (by omega) (by omega)]; exact V46
      · rw [Y _ _ (by omega)]; exact j1 w w0 (by omega)
    refine ⟨fun e4 h4 => e4 = [1000, x] ∧ ∃ r, stR h4 (X 2) (X 0 1) r ∧ frW h3 h4 ∧ (∀ s, r = .inl s → okD (X 0 1) s ∧ pTx (X 2) (X 0 1) = .inl (h4 1000 47, s.2)) ∧ (∀ z, r = .inr z → pTx (X 2) (X 0 1) = .inr z), ?_, ?_⟩
    · exact r_pLoop ht3 s3 Y47 (fun h4 r s4 f4 g1 g2 => ⟨rfl, r, s4, f4, g1, g2⟩)
    · rintro e4 h4 ⟨rfl, r, s4, f4, g1, g2⟩
      simp -implicitDefEqProofs only [↓dn_den, ↓dn_loc, ↓dn_k, ↓dn_add, ↓dn_sub, ↓dn_mul, ↓dn_div, ↓dn_rem, ↓dn_bop, ↓dn_ladd, ↓dn_lsub, ↓dn_lmul, ↓dn_ldiv, ↓dn_lrem, ↓dn_land, ↓dn_l2i, ↓dn_neg, ↓dn_get, ↓dn_fix, ↓dn_ald, ↓dn_gld, ↓dn_yld, ↓dn_len, ↓dn_gln, ↓dn_cc, ↓dn_cb, ↓dn_and, ↓dn_or, ↓dn_not, ↓dn_cite, ↓dn_ec, ↓dn_ei, ↓dn_skip, ↓dn_seq, ↓dn_set, ↓dn_inc, ↓dn_putf, ↓dn_putz, ↓dn_ast, ↓dn_exp, ↓dn_if, ↓dn_ret, ↓dn_retz, ↓dn_retv, ↓dn_brk, ↓dn_cont, ↓dn_cs, ↓dn_sw, ↓dn_pop32, ↓dn_pop64, ↓dn_aop, ↓dn_call, ↓dn_max, ↓dn_min, ↓dn_acp, ↓dn_i2l, ↓dn_args0, ↓dn_args1, og_pad, og_ent, og_rlt, og_rle, og_rgt, og_rge, og_req, og_rne, og_padd, og_psub, og_pmul, List.getD_cons_zero, List.getD_cons_succ, List.set_cons_zero, List.set_cons_succ, List.length_cons, List.length_nil, List.cons_append, List.nil_append, List.replicate, List.append_nil, Nat.reduceAdd, Nat.reduceSub, Nat.reduceEqDiff, if_true, if_false, reduceIte, Int.reduceAdd, Int.reduceSub, Int.reduceMul, Int.reduceNeg, Int.reduceLT, Int.reduceLE, Int.cast_ofNat_Int, true_or, or_true, true_and, and_true, false_and, List.mem_cons, List.not_mem_nil, or_false, false_or, ne_eq, og_i32]
      have e48 : og_up h4 1000 7 (h4 1000 5) 1000 6 = h4 1000 6 := og_up_k (by decide)
      rw [e48]
      have Z : ∀ i k, ¬ (i = 1000 ∧ (k = 7 ∨ k = 8)) → og_up (og_up h4 1000 7 (h4 1000 5)) 1000 8 (h4 1000 6) i k = h4 i k := fun i k hp => by
        unfold og_up
        rw [if_neg (by omega), if_neg (by omega)]
      have Z7 : og_up (og_up h4 1000 7 (h4 1000 5)) 1000 8 (h4 1000 6) 1000 7 = h4 1000 5 := by rw [og_up_k (by decide), og_up_eq]
      have Z8 : og_up (og_up h4 1000 7 (h4 1000 5)) 1000 8 (h4 1000 6) 1000 8 = h4 1000 6 := og_up_eq
      generalize og_up (og_up h4 1000 7 (h4 1000 5)) 1000 8 (h4 1000 6) = h5 at Z Z7 Z8
      have F5 : ∀ i k, ¬ (i = 1000 ∧ (k = 7 ∨ k = 8)) → ¬ (i = 1070 ∨ i = 1071 ∨ i = 1032 ∨ i = 1033 ∨ (i = 1028 ∧ k < 2) ∨ (i = 1029 ∧ k < 16) ∨ (i = 1030 ∧ k < 6) ∨ (i = 1031 ∧ k < 8) ∨ ((i = 1034 ∨ i = 1035) ∧ k < 5) ∨ (i = 1036 ∧ k < 1600) ∨ (i = 1000 ∧ (k = 2 ∨ k = 4 ∨ k = 5 ∨ k = 6 ∨ k = 10 ∨ k = 36 ∨ k = 46 ∨ k = 47 ∨ k = 48 ∨ k = 91 ∨ k = 93 ∨ k = 94 ∨ k = 95))) → h5 i k = h3 i k := fun i k p1 p2 => by rw [Z i k p1, f4 i k p2]
      have N5 : frN h h5 := frN_tr N3 (fun i k hp => F5 i k (by omega) (by omega))
      have t5 : h5 1000 1 = 0 := by rw [F5 _ _ (by omega) (by omega), F3 _ _ (by omega) (by omega)]; exact V1
      rw [Z 1000 5 (by omega)]
      cases r with
      | inr z =>
        have h45 : h4 1000 5 ≠ 0 := by rw [s4.1]; exact s4.2.2
        refine ⟨fun _ => ?_, fun y => absurd h45 y⟩
        have r5 : relM q h5 M A P U (sFt X z.1 z.2) := relM_ft hx.1.1 hr N5 (Z7.trans s4.1) (Z8.trans s4.2.1) t5
        have rf := m_rfE (j := 1) (by decide) hn r5 (okX_ft hx)
        rw [rf.1]
        have fin := hK0 z (g2 z rfl) _ (relM_rf (j := 1) hx.1.1 r5)
        repeat (refine And.intro (by omega) ?_)
        exact fin
      | inl s =>
        obtain ⟨ok, e⟩ := g1 s rfl
        refine ⟨fun y => absurd s4.1.1.1 y, fun _ => ?_⟩
        obtain ⟨⟨d1, d2⟩, d3, d4, c, c1, c2, c3⟩ := s4.2
        obtain ⟨⟨a0, a1⟩, ⟨y0, y1, y2⟩, o3, o4, o5, o6, o7⟩ := ok
        obtain ⟨a, D, R⟩ := s
        dsimp only at d1 d2 d3 d4 c1 c3 a0 a1 y0 y1 y2 o3 o4 o5 o6 o7 e
        have k80 : h5 1028 0 = D 0 0 := by rw [Z _ _ (by omega)]; exact d1
        have k81 : h5 1028 1 = D 0 1 := by rw [Z _ _ (by omega)]; exact d2
        have k46 : h5 1000 46 = c.length := by rw [Z _ _ (by omega)]; exact c2.1
        refine r_stands (by omega) (by omega) (by omega) (fun h6 b1 b2 b3 b4 b5 b6 b7 b8 b9 b10 f6 => ?_)
        have e47 : h6 1000 47 = h4 1000 47 := by rw [f6 _ _ (by omega), Z _ _ (by omega)]
        have fin := hK1 _ e h6
        dsimp only at fin
        rw [e47]
        refine fin ?_
        rw [k80, k81] at b1
        rw [k80] at b8
        rw [k81] at b9
        rw [k46] at b6
        obtain ⟨⟨y, z, t⟩, u, ⟨ra, rb, rc, rd, ⟨re1, re2, re3⟩, ⟨rg1, rg2⟩, rn, rw0⟩, f⟩ := hr
        have F : ∀ i k, ¬ (i = 1037 ∨ (1028 ≤ i ∧ i ≤ 1036) ∨ i = 1070 ∨ i = 1071 ∨ i = 1072 ∨ (i = 1000 ∧ (k = 1 ∨ k = 2 ∨ k = 3 ∨ k = 4 ∨ k = 5 ∨ k = 6 ∨ k = 7 ∨ k = 8 ∨ k = 10 ∨ k = 36 ∨ k = 46 ∨ k = 47 ∨ k = 48 ∨ k = 51 ∨ k = 61 ∨ k = 65 ∨ k = 91 ∨ k = 93 ∨ k = 94 ∨ k = 95 ∨ k = 97 ∨ k = 98 ∨ k = 99))) → h6 i k = h i k := fun i k hp => by rw [f6 i k (by omega), N5 i k (by omega)]
        have z6 : h6 1000 53 = 0 := by rw [F _ _ (by omega)]; exact z
        have hrow : isRow (h6 1037) D := by
          refine ⟨by rw [b7.1]; exact o3.1.symm, fun k k0 k1 => ?_, fun k k0 k1 => ?_, by rw [b7.2]; exact o3.2.symm, fun k k0 k1 => by omega⟩
          · have v := b8 k k0 k1
            have w := d3 k k0 k1
            rw [v.1, v.2.1, v.2.2, Z _ _ (by omega), Z _ _ (by omega)]
            exact ⟨w.2.2.1, w.2.2.2, (o4 k k0 k1).symm⟩
          · have v := b9 k k0 k1
            have w := d4 k k0 k1
            rw [v.1, v.2.1, v.2.2, Z _ _ (by omega), Z _ _ (by omega)]
            exact ⟨w.2.2.1, w.2.2.2, (o5 k k0 k1).symm⟩
        have hpar : parM h6 D := ⟨b1.1, b1.2, fun k k0 k1 => by rw [b4 k k0 (by omega), Z _ _ (by omega)]; exact (d3 k k0 k1).2.1, fun k k0 k1 => by rw [b5 k k0 (by omega), Z _ _ (by omega)]; exact (d4 k k0 k1).2.1⟩
        refine ⟨⟨row_isN hrow hpar, z6, by unfold tmB; rw [F _ _ (by omega)]; exact t⟩, ⟨⟨b10.1, by simp, by rw [F _ _ (by omega)]; exact u.1.2.2.1, by rw [F _ _ (by omega)]; exact u.1.2.2.2⟩, fun j hj => by simp at hj⟩, ⟨fun w w0 w1 => ?_, ⟨b10.2, fun j j0 j1 => ?_⟩, ⟨?_, fun j j0 j1 => ?_⟩, fun j j0 j1 => ?_, ⟨?_, ?_, ?_⟩, ⟨?_, fun j j0 j1 => ?_⟩, ⟨fun j j0 j1 => ?_, fun j j0 j1 => ?_⟩, fun v hv j hj => ?_⟩, fun i j hi => (F i j (by omega)).trans (f i j hi)⟩
        · have v := b2 w w0 (by omega)
          rcases c3 w w0 w1 with ⟨z1, z2⟩ | ⟨z1, x1, x2, q1, q2, q3⟩
          · refine Or.inl ⟨by rw [v.1, Z _ _ (by omega)]; exact z2, ?_⟩
            unfold fuP
            rw [if_pos z1, show 8 + w - 8 = w by omega]
          · have le : c.length = x1.length + (R (8 + w)).length + x2.length := by rw [q1]; simp only [List.length_append]
            have ef : fuP R (8 + w) = R (8 + w) := by unfold fuP; rw [if_neg z1]
            rw [ef]
            refine Or.inr ⟨?_, ?_, ?_, fun j hj => ?_⟩
            · rw [v.1, Z _ _ (by omega), q2]; omega
            · rw [v.1, v.2, Z _ _ (by omega), Z _ _ (by omega), q2, q3]
            · rw [v.2, Z _ _ (by omega), q3]; omega
            · rw [v.1, Z 1034 _ (by omega), q2, b6 _ (by omega) (by omega), Z _ _ (by omega)]
              have cj := c2.2 (x1.length + j) (by omega)
              rw [show ((x1.length + j : Nat) : Int) = (x1.length : Int) + j by omega] at cj
              refine ⟨cj.1, cj.2.trans ?_⟩
              rw [q1]
              simp only [List.getD_eq_getElem?_getD]
              rw [List.append_assoc, List.getElem?_append_right (by omega), show x1.length + j - x1.length = j by omega, List.getElem?_append_left hj]
        · have j1 : j < 3 * 0 := j1
          omega
        · rw [f6 _ _ (by omega)]; exact t5
        · have j1 : j < 0 := j1
          omega
        · rw [F _ _ (by omega)]; exact rd j j0 j1
        · rw [F _ _ (by omega)]; exact re1
        · rw [f6 _ _ (by omega), Z7]; exact s4.1.1.1
        · rw [f6 _ _ (by omega), Z8]; exact s4.1.1.2
        · rw [F _ _ (by omega)]; exact rg1
        · rw [F _ _ (by omega)]; exact rg2 j j0 j1
        · rw [b3 j j0 (by omega), Z _ _ (by omega)]; exact (d3 j j0 j1).1
        · have := b3 (8 + j) (by omega) (by omega)
          rw [show 16 + (8 + j) = 24 + j by omega] at this
          rw [this, Z _ _ (by omega)]; exact (d4 j j0 j1).1
        · rw [F _ _ (by omega)]; exact rw0 v hv j hj
end
end
