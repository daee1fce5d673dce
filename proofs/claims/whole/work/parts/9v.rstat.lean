section
-- the reference: statements
def rulM (h : Hp) (c : List Int) (R : Pr) : Prop := ∀ w, 0 ≤ w → w ≤ 4 → (R (8 + w) = [] ∧ h 1034 w = -1) ∨ (R (8 + w) ≠ [] ∧ ∃ c1 c2, c = c1 ++ R (8 + w) ++ c2 ∧ h 1034 w = c1.length ∧ h 1035 w = (c1.length : Int) + (R (8 + w)).length)
def drM (h : Hp) (s : QS) : Prop := (h 1028 0 = s.2.1 0 0 ∧ h 1028 1 = s.2.1 0 1) ∧ (∀ k, 0 ≤ k → k < s.2.1 0 0 → h 1029 k = s.2.1 10 k ∧ h 1030 k = s.2.1 1 k ∧ h 1032 (2 * k) = s.2.1 2 k ∧ h 1032 (2 * k + 1) = s.2.1 3 k) ∧ (∀ k, 0 ≤ k → k < s.2.1 0 1 → h 1029 (8 + k) = s.2.1 10 (6 + k) ∧ h 1031 k = s.2.1 5 k ∧ h 1033 (2 * k) = s.2.1 6 k ∧ h 1033 (2 * k + 1) = s.2.1 7 k) ∧ ∃ c, (c.length : Int) ≤ s.1 ∧ cdA h c ∧ rulM h c s.2.2
def stR (h : Hp) (B : Int → Int) (n : Int) (r : PQ) : Prop := match r with
  | .inl s => refS h B n s.1 ∧ drM h s
  | .inr z => fltM h z.1 z.2
def frW (h h' : Hp) : Prop := ∀ i k, ¬ (i = 1070 ∨ i = 1071 ∨ i = 1032 ∨ i = 1033 ∨ (i = 1028 ∧ k < 2) ∨ (i = 1029 ∧ k < 16) ∨ (i = 1030 ∧ k < 6) ∨ (i = 1031 ∧ k < 8) ∨ ((i = 1034 ∨ i = 1035) ∧ k < 5) ∨ (i = 1036 ∧ k < 1600) ∨ (i = 1000 ∧ (k = 2 ∨ k = 4 ∨ k = 5 ∨ k = 6 ∨ k = 10 ∨ k = 36 ∨ k = 46 ∨ k = 47 ∨ k = 48 ∨ k = 91 ∨ k = 93 ∨ k = 94 ∨ k = 95))) → h' i k = h i k
def frW0 (h h' : Hp) : Prop := ∀ i k, ¬ (i = 1070 ∨ i = 1071 ∨ i = 1032 ∨ i = 1033 ∨ (i = 1028 ∧ k < 2) ∨ (i = 1029 ∧ k < 16) ∨ (i = 1030 ∧ k < 6) ∨ (i = 1031 ∧ k < 8) ∨ ((i = 1034 ∨ i = 1035) ∧ k < 5) ∨ (i = 1036 ∧ k < 1600) ∨ (i = 1000 ∧ (k = 2 ∨ k = 4 ∨ k = 5 ∨ k = 6 ∨ k = 10 ∨ k = 36 ∨ k = 46 ∨ k = 48 ∨ k = 91 ∨ k = 93 ∨ k = 94 ∨ k = 95))) → h' i k = h i k
theorem frW0_tr {h h1 h2 : Hp} (a : frW0 h h1) (b : frW0 h1 h2) : frW0 h h2 := fun i k p => (b i k p).trans (a i k p)
theorem frW0_W {h h' : Hp} (a : frW0 h h') : frW h h' := fun i k p => a i k (by omega)
theorem frX_W0 {h h' : Hp} (a : frX h h') : frW0 h h' := fun i k p => a i k (by omega)
theorem frV_W0 {h h' : Hp} (a : frV h h') : frW0 h h' := fun i k p => a i k (by omega)
theorem frW_rf {h : Hp} : frW h h := fun _ _ _ => rfl
theorem frW_tr {h h1 h2 : Hp} (a : frW h h1) (b : frW h1 h2) : frW h h2 := fun i k p => (b i k p).trans (a i k p)
theorem frX_W {h h' : Hp} (a : frX h h') : frW h h' := fun i k p => a i k (by omega)
theorem frV_W {h h' : Hp} (a : frV h h') : frW h h' := fun i k p => a i k (by omega)
section
variable {h h0 h' : Hp} {B : Int → Int} {n a : Int} {t : TS} {K : Int → Hp → Prop} {D : Yd} {R : Pr} {c : List Int}
theorem txM_W (ht : txM h B n) (hf : frW h h') : txM h' B n := txM_fr ht (fun i k hi => by
  unfold idW at hi
  exact hf i k (by omega))
theorem drM_fr {s : QS} (hd : drM h s) (hf : ∀ i k, ((1028 ≤ i ∧ i ≤ 1036) ∨ (i = 1000 ∧ k = 46)) → h' i k = h i k) : drM h' s := by
  obtain ⟨⟨a1, a2⟩, b, e, c, c1, c2, c3⟩ := hd
  refine ⟨⟨by rw [hf _ _ (by omega)]; exact a1, by rw [hf _ _ (by omega)]; exact a2⟩, fun k k0 k1 => ?_, fun k k0 k1 => ?_, c, c1, ⟨by rw [hf _ _ (by omega)]; exact c2.1, fun j hj => by rw [hf _ _ (by omega)]; exact c2.2 j hj⟩, fun w w0 w1 => ?_⟩
  · rw [hf _ _ (by omega), hf _ _ (by omega), hf _ _ (by omega), hf _ _ (by omega)]; exact b k k0 k1
  · rw [hf _ _ (by omega), hf _ _ (by omega), hf _ _ (by omega), hf _ _ (by omega)]; exact e k k0 k1
  · rw [hf _ _ (by omega), hf _ _ (by omega)]; exact c3 w w0 w1
theorem nmM_of {s : QS} (hr : drM h s) (hd : okD n s) : nmM h s.2.1 := ⟨hr.1, ⟨hd.2.1.1.1, hd.2.1.1.2.1, hd.2.1.1.2.2.1, hd.2.1.1.2.2.2.1⟩, fun j j0 j1 => (hr.2.1 j j0 j1).1, fun j j0 j1 => (hr.2.2.1 j j0 j1).1⟩
theorem r_grv (ht : txM h B n) (hw : wrd B n a = 0) (hr : refS h B n (tE B n a)) (hd : drM h (a, D, R)) (ok : okD n (a, D, R)) (hK : ∀ h', stR h' B n (pSt1 B n a D R) → frW0 h h' → K 0 h') : m_Model_graveTold [1000, tS B n a] h K := by
  have dm := ok.2.1.1
  dsimp only at dm
  refine r_graveTold (D := D) ht hr (nmM_of hd ok) (fun f h1 l1 f1 => hK h1 ?_ (frX_W0 f1)) (fun f h1 k1 z1 v1 => ?_)
  · unfold pSt1
    rw [if_pos hw, if_pos f]
    exact l1
  · have e1 : pSt1 B n a D R = liQ (pGrv B n D (tE B n a)) (sGrv B n D (tE B n a)) R := by unfold pSt1; rw [if_pos hw, if_neg f]
    rw [e1] at hK
    cases e : pGrv B n D (tE B n a) with
    | inr z =>
      rw [e] at hK k1
      exact hK h1 k1 (frX_W0 (z1 z e))
    | inl b =>
      rw [e] at hK k1
      obtain ⟨⟨x1, x2, x3, x4, x5⟩, F⟩ := v1 b e
      have g := wrd_go (B := B) (n := n) (a := a) (by omega)
      have te := tE_le (B := B) (n := n) (a := a) ok.1.2
      have a0 : 0 ≤ a := ok.1.1
      have r := okD_grv ok f ⟨by omega, te⟩ e
      obtain ⟨⟨d1, d2⟩, d3, d4, c, c1, c2, c3⟩ := hd
      dsimp only at d1 d2 d3 d4 c1 c3
      refine hK h1 ⟨k1, ⟨?_, ?_⟩, fun k k0 k1 => ?_, fun k k0 k1 => ?_, c, by show (c.length : Int) ≤ b; omega, ⟨by rw [F _ _ (by omega)]; exact c2.1, fun j hj => by rw [F _ _ (by omega)]; exact c2.2 j hj⟩, fun w w0 w1 => by rw [F _ _ (by omega), F _ _ (by omega)]; exact c3 w w0 w1⟩ (fun i k hp => F i k (by omega))
      · dsimp only
        rw [sGrv_0]; exact x5
      · dsimp only
        rw [sGrv_0k (by decide), F _ _ (by omega)]; exact d2
      · dsimp only at k1 ⊢
        rw [sGrv_0] at k1
        by_cases e : k = D 0 0
        · subst e
          rw [sGrv_n, sGrv_1, sGrv_2, sGrv_3]
          exact ⟨x1, x2, x3, x4⟩
        · rw [sGrv_c (by decide) e, sGrv_c (by decide) e, sGrv_c (by decide) e, sGrv_c (by decide) e, F _ _ (by omega), F _ _ (by omega), F _ _ (by omega), F _ _ (by omega)]
          exact d3 k k0 (by omega)
      · dsimp only at k1 ⊢
        rw [sGrv_0k (by decide)] at k1
        rw [sGrv_c (by decide) (by omega), sGrv_o (by omega), sGrv_o (by omega), sGrv_o (by omega), F _ _ (by omega), F _ _ (by omega), F _ _ (by omega), F _ _ (by omega)]
        exact d4 k k0 k1
theorem r_prs (ht : txM h B n) (hw : wrd B n a = 4) (hr : refS h B n (tE B n a)) (hd : drM h (a, D, R)) (ok : okD n (a, D, R)) (hK : ∀ h', stR h' B n (pSt1 B n a D R) → frW0 h h' → K 0 h') : m_Model_personTold [1000, tS B n a] h K := by
  have dm := ok.2.1.1
  dsimp only at dm
  refine r_personTold (D := D) ht hr (nmM_of hd ok) (fun f h1 l1 f1 => hK h1 ?_ (frX_W0 f1)) (fun f h1 k1 z1 v1 => ?_)
  · unfold pSt1
    rw [if_neg (by omega), if_pos hw, if_pos f]
    exact l1
  · have e1 : pSt1 B n a D R = liQ (pPrs B n D (tE B n a)) (sPrs B n D (tE B n a)) R := by unfold pSt1; rw [if_neg (by omega), if_pos hw, if_neg f]
    rw [e1] at hK
    cases e : pPrs B n D (tE B n a) with
    | inr z =>
      rw [e] at hK k1
      exact hK h1 k1 (frX_W0 (z1 z e))
    | inl b =>
      rw [e] at hK k1
      obtain ⟨⟨x1, x2, x3, x4, x5⟩, F⟩ := v1 b e
      have g := wrd_go (B := B) (n := n) (a := a) (by omega)
      have te := tE_le (B := B) (n := n) (a := a) ok.1.2
      have a0 : 0 ≤ a := ok.1.1
      have r := okD_prs ok f ⟨by omega, te⟩ e
      obtain ⟨⟨d1, d2⟩, d3, d4, c, c1, c2, c3⟩ := hd
      dsimp only at d1 d2 d3 d4 c1 c3
      refine hK h1 ⟨k1, ⟨?_, ?_⟩, fun k k0 k1 => ?_, fun k k0 k1 => ?_, c, by show (c.length : Int) ≤ b; omega, ⟨by rw [F _ _ (by omega)]; exact c2.1, fun j hj => by rw [F _ _ (by omega)]; exact c2.2 j hj⟩, fun w w0 w1 => by rw [F _ _ (by omega), F _ _ (by omega)]; exact c3 w w0 w1⟩ (fun i k hp => F i k (by omega))
      · dsimp only
        rw [sPrs_0k (by decide), F _ _ (by omega)]; exact d1
      · dsimp only
        rw [sPrs_0]; exact x5
      · dsimp only at k1 ⊢
        rw [sPrs_0k (by decide)] at k1
        rw [sPrs_m (by omega), sPrs_o (by omega), sPrs_o (by omega), sPrs_o (by omega), F _ _ (by omega), F _ _ (by omega), F _ _ (by omega), F _ _ (by omega)]
        exact d3 k k0 k1
      · dsimp only at k1 ⊢
        rw [sPrs_0] at k1
        by_cases e : k = D 0 1
        · subst e
          rw [sPrs_n, sPrs_1, sPrs_2, sPrs_3]
          exact ⟨x1, x2, x3, x4⟩
        · rw [sPrs_m (by omega), sPrs_c (by decide) (by decide) e, sPrs_c (by decide) (by decide) e, sPrs_c (by decide) (by decide) e, F _ _ (by omega), F _ _ (by omega), F _ _ (by omega), F _ _ (by omega)]
          exact d4 k k0 (by omega)
theorem r_rule {i : Int} (hi : 0 ≤ i ∧ i ≤ 4) (ht : txM h B n) (hw : wrd B n a = 8 + i) (hr : refS h B n (tE B n a)) (hd : drM h (a, D, R)) (ok : okD n (a, D, R)) (hK : ∀ h', stR h' B n (pSt1 B n a D R) → frW0 h h' → K 0 h') : m_Model_codesTold [1000, i, tS B n a] h K := by
  have g := wrd_go (B := B) (n := n) (a := a) (by omega)
  have te := tE_le (B := B) (n := n) (a := a) ok.1.2
  have a0 : 0 ≤ a := ok.1.1
  have a1 : a ≤ n := ok.1.2
  have hn := ht.2.2.1
  obtain ⟨⟨d1, d2⟩, d3, d4, c, c1, c2, c3⟩ := hd
  dsimp only at d1 d2 d3 d4 c1 c3
  have told : h 1034 i = -1 ↔ (R (8 + i)).length = 0 := by
    rcases c3 i hi.1 hi.2 with ⟨z1, z2⟩ | ⟨z1, x1, x2, e1, e2, e3⟩
    · rw [z1, z2]; simp
    · have : 0 < (R (8 + i)).length := List.length_pos_iff.mpr z1
      omega
  have e1 : pSt1 B n a D R = if (R (8 + i)).length = 0 then liR (gR B n (8 + i) (decide (8 + i = 9)) (tE B n a) []) (8 + i) D R else .inr (5, tS B n a) := by
    unfold pSt1
    rw [hw, if_neg (by omega), if_neg (by omega), if_pos (by omega)]
  rw [e1] at hK
  refine r_codesTold (c := c) hi ht hr c2 (by omega) (fun f h1 l1 f1 => ?_) (fun f z e h1 l1 f1 => ?_) (fun f b q e h1 r1 c1' v34 v35 F => ?_)
  · rw [if_neg (fun z => f (told.mpr z))] at hK
    exact hK h1 l1 (frX_W0 f1)
  · rw [if_pos (told.mp f), e] at hK
    exact hK h1 l1 (frV_W0 f1)
  · rw [if_pos (told.mp f), e] at hK
    have rn := rul_ne e
    have ad := adv_gR (B := B) (n := n) (pu := 8 + i) (decide (8 + i = 9)) (tE B n a) [] (by omega) te
    rw [e] at ad
    have ad3 : (q.length : Int) + tE B n a ≤ (([] : List Int).length : Int) + b := ad.2.2
    simp only [List.length_nil] at ad3
    refine hK h1 ⟨r1, ⟨by rw [F _ _ (by omega)]; exact d1, by rw [F _ _ (by omega)]; exact d2⟩, fun k k0 k1 => ?_, fun k k0 k1 => ?_, c ++ q, ?_, c1', fun w w0 w1 => ?_⟩ (fun j k hp => F j k (by omega))
    · rw [F _ _ (by omega), F _ _ (by omega), F _ _ (by omega), F _ _ (by omega)]; exact d3 k k0 k1
    · rw [F _ _ (by omega), F _ _ (by omega), F _ _ (by omega), F _ _ (by omega)]; exact d4 k k0 k1
    · show ((c ++ q).length : Int) ≤ b
      rw [List.length_append]; omega
    · dsimp only
      by_cases ew : w = i
      · subst ew
        rw [if_pos rfl]
        refine Or.inr ⟨rn.1, c, [], by rw [List.append_nil], v34, ?_⟩
        rw [v35, List.length_append]; omega
      · rw [if_neg (by omega), F _ _ (by omega), F _ _ (by omega)]
        rcases c3 w w0 w1 with z | ⟨z, x1, x2, e1, e2⟩
        · exact Or.inl z
        · exact Or.inr ⟨z, x1, x2 ++ q, by rw [e1]; simp only [List.append_assoc], e2⟩
theorem wn_s : wnM 1003 = 0 ∧ wnM 1007 = 4 ∧ wnM 1011 = 8 ∧ wnM 1012 = 9 ∧ wnM 1013 = 10 ∧ wnM 1014 = 11 ∧ wnM 1015 = 12 := by decide
theorem drX {s : QS} (hd : drM h s) (hf : frX h h') : drM h' s := drM_fr hd (fun i k hi => hf i k (by omega))
set_option maxHeartbeats 400000 in
theorem r_statementTold (ht : txM h B n) (hr : refS h B n a) (h2 : h 1000 2 = tS B n a) (hd : drM h (a, D, R)) (ok : okD n (a, D, R)) (h47 : 0 ≤ h 1000 47 ∧ h 1000 47 ≤ 2000) (hK : ∀ h', stR h' B n (pSt B n (a, D, R)) → h' 1000 47 = h 1000 47 + 1 → frW h h' → K 0 h') : m_Model_statementTold [1000] h K := by
  have w0 := wn_s
  unfold m_Model_statementTold
  simp -implicitDefEqProofs only [↓dn_den, ↓dn_loc, ↓dn_k, ↓dn_add, ↓dn_sub, ↓dn_mul, ↓dn_div, ↓dn_rem, ↓dn_bop, ↓dn_ladd, ↓dn_lsub, ↓dn_lmul, ↓dn_ldiv, ↓dn_lrem, ↓dn_land, ↓dn_l2i, ↓dn_neg, ↓dn_get, ↓dn_fix, ↓dn_ald, ↓dn_gld, ↓dn_yld, ↓dn_len, ↓dn_gln, ↓dn_cc, ↓dn_cb, ↓dn_and, ↓dn_or, ↓dn_not, ↓dn_cite, ↓dn_ec, ↓dn_ei, ↓dn_skip, ↓dn_seq, ↓dn_set, ↓dn_inc, ↓dn_putf, ↓dn_putz, ↓dn_ast, ↓dn_exp, ↓dn_ret, ↓dn_retz, ↓dn_retv, ↓dn_brk, ↓dn_cont, ↓dn_cs, ↓dn_sw, ↓dn_pop32, ↓dn_pop64, ↓dn_aop, ↓dn_call, ↓dn_max, ↓dn_min, ↓dn_acp, ↓dn_i2l, ↓dn_args0, ↓dn_args1, og_pad, og_ent, og_rlt, og_rle, og_rgt, og_rge, og_req, og_rne, og_padd, og_psub, og_pmul, List.getD_cons_zero, List.getD_cons_succ, List.set_cons_zero, List.set_cons_succ, List.length_cons, List.length_nil, List.cons_append, List.nil_append, List.replicate, List.append_nil, Nat.reduceAdd, Nat.reduceSub, Nat.reduceEqDiff, if_true, if_false, reduceIte, Int.reduceAdd, Int.reduceSub, Int.reduceMul, Int.reduceNeg, Int.reduceLT, Int.reduceLE, Int.cast_ofNat_Int, true_or, or_true, true_and, and_true, false_and, List.mem_cons, List.not_mem_nil, or_false, false_or, ne_eq]
  rw [h2]
  refine ⟨fun e1 h1 => e1 = [1000, tS B n a] ∧ stR h1 B n (pSt1 B n a D R) ∧ frW h h1 ∧ h1 1000 47 = h 1000 47, ?_, ?_⟩
  · have fin : ∀ hh h1, frX h hh → stR h1 B n (pSt1 B n a D R) → frW0 hh h1 → stR h1 B n (pSt1 B n a D R) ∧ frW h h1 ∧ h1 1000 47 = h 1000 47 := fun hh h1 f s f2 => ⟨s, frW0_W (frW0_tr (frX_W0 f) f2), by rw [f2 _ _ (by omega), f _ _ (by omega)]⟩
    have g0 : frX h h := frX_rf
    rw [dn_if]
    simp -implicitDefEqProofs only [↓dn_den, ↓dn_loc, ↓dn_k, ↓dn_add, ↓dn_sub, ↓dn_mul, ↓dn_div, ↓dn_rem, ↓dn_bop, ↓dn_ladd, ↓dn_lsub, ↓dn_lmul, ↓dn_ldiv, ↓dn_lrem, ↓dn_land, ↓dn_l2i, ↓dn_neg, ↓dn_get, ↓dn_fix, ↓dn_ald, ↓dn_gld, ↓dn_yld, ↓dn_len, ↓dn_gln, ↓dn_cc, ↓dn_cb, ↓dn_and, ↓dn_or, ↓dn_not, ↓dn_cite, ↓dn_ec, ↓dn_ei, ↓dn_skip, ↓dn_seq, ↓dn_set, ↓dn_inc, ↓dn_putf, ↓dn_putz, ↓dn_ast, ↓dn_exp, ↓dn_ret, ↓dn_retz, ↓dn_retv, ↓dn_brk, ↓dn_cont, ↓dn_cs, ↓dn_sw, ↓dn_pop32, ↓dn_pop64, ↓dn_aop, ↓dn_call, ↓dn_max, ↓dn_min, ↓dn_acp, ↓dn_i2l, ↓dn_args0, ↓dn_args1, og_pad, og_ent, og_rlt, og_rle, og_rgt, og_rge, og_req, og_rne, og_padd, og_psub, og_pmul, List.getD_cons_zero, List.getD_cons_succ, List.set_cons_zero, List.set_cons_succ, List.length_cons, List.length_nil, List.cons_append, List.nil_append, List.replicate, List.append_nil, Nat.reduceAdd, Nat.reduceSub, Nat.reduceEqDiff, if_true, if_false, reduceIte, Int.reduceAdd, Int.reduceSub, Int.reduceMul, Int.reduceNeg, Int.reduceLT, Int.reduceLE, Int.cast_ofNat_Int, true_or, or_true, true_and, and_true, false_and, List.mem_cons, List.not_mem_nil, or_false, false_or, ne_eq]
    refine r_takes (w := 1003) (by unfold idW; omega) ht hr (fun q h1 r1 f1 => ⟨fun _ => r_grv (txM_X ht f1) (q.trans w0.1) r1 (drX (drX hd g0) f1) ok (fun h9 s9 f9 => fin h1 h9 (frX_tr g0 f1) s9 f9), fun z => absurd z (by decide)⟩) (fun q0 h1 r1 v1 f1 => ⟨fun z => absurd rfl z, fun _ => ?_⟩)
    rw [w0.1] at q0
    have g1 := frX_tr g0 f1
    have t1 := txM_X ht f1
    rw [dn_if]
    simp -implicitDefEqProofs only [↓dn_den, ↓dn_loc, ↓dn_k, ↓dn_add, ↓dn_sub, ↓dn_mul, ↓dn_div, ↓dn_rem, ↓dn_bop, ↓dn_ladd, ↓dn_lsub, ↓dn_lmul, ↓dn_ldiv, ↓dn_lrem, ↓dn_land, ↓dn_l2i, ↓dn_neg, ↓dn_get, ↓dn_fix, ↓dn_ald, ↓dn_gld, ↓dn_yld, ↓dn_len, ↓dn_gln, ↓dn_cc, ↓dn_cb, ↓dn_and, ↓dn_or, ↓dn_not, ↓dn_cite, ↓dn_ec, ↓dn_ei, ↓dn_skip, ↓dn_seq, ↓dn_set, ↓dn_inc, ↓dn_putf, ↓dn_putz, ↓dn_ast, ↓dn_exp, ↓dn_ret, ↓dn_retz, ↓dn_retv, ↓dn_brk, ↓dn_cont, ↓dn_cs, ↓dn_sw, ↓dn_pop32, ↓dn_pop64, ↓dn_aop, ↓dn_call, ↓dn_max, ↓dn_min, ↓dn_acp, ↓dn_i2l, ↓dn_args0, ↓dn_args1, og_pad, og_ent, og_rlt, og_rle, og_rgt, og_rge, og_req, og_rne, og_padd, og_psub, og_pmul, List.getD_cons_zero, List.getD_cons_succ, List.set_cons_zero, List.set_cons_succ, List.length_cons, List.length_nil, List.cons_append, List.nil_append, List.replicate, List.append_nil, Nat.reduceAdd, Nat.reduceSub, Nat.reduceEqDiff, if_true, if_false, reduceIte, Int.reduceAdd, Int.reduceSub, Int.reduceMul, Int.reduceNeg, Int.reduceLT, Int.reduceLE, Int.cast_ofNat_Int, true_or, or_true, true_and, and_true, false_and, List.mem_cons, List.not_mem_nil, or_false, false_or, ne_eq]
    refine r_takes (w := 1007) (by unfold idW; omega) t1 r1 (fun q h2 r2 f2 => ⟨fun _ => r_prs (txM_X t1 f2) (q.trans w0.2.1) r2 (drX (drX hd g1) f2) ok (fun h9 s9 f9 => fin h2 h9 (frX_tr g1 f2) s9 f9), fun z => absurd z (by decide)⟩) (fun q1 h2 r2 v2 f2 => ⟨fun z => absurd rfl z, fun _ => ?_⟩)
    rw [w0.2.1] at q1
    have g2 := frX_tr g1 f2
    have t2 := txM_X t1 f2
    rw [dn_if]
    simp -implicitDefEqProofs only [↓dn_den, ↓dn_loc, ↓dn_k, ↓dn_add, ↓dn_sub, ↓dn_mul, ↓dn_div, ↓dn_rem, ↓dn_bop, ↓dn_ladd, ↓dn_lsub, ↓dn_lmul, ↓dn_ldiv, ↓dn_lrem, ↓dn_land, ↓dn_l2i, ↓dn_neg, ↓dn_get, ↓dn_fix, ↓dn_ald, ↓dn_gld, ↓dn_yld, ↓dn_len, ↓dn_gln, ↓dn_cc, ↓dn_cb, ↓dn_and, ↓dn_or, ↓dn_not, ↓dn_cite, ↓dn_ec, ↓dn_ei, ↓dn_skip, ↓dn_seq, ↓dn_set, ↓dn_inc, ↓dn_putf, ↓dn_putz, ↓dn_ast, ↓dn_exp, ↓dn_ret, ↓dn_retz, ↓dn_retv, ↓dn_brk, ↓dn_cont, ↓dn_cs, ↓dn_sw, ↓dn_pop32, ↓dn_pop64, ↓dn_aop, ↓dn_call, ↓dn_max, ↓dn_min, ↓dn_acp, ↓dn_i2l, ↓dn_args0, ↓dn_args1, og_pad, og_ent, og_rlt, og_rle, og_rgt, og_rge, og_req, og_rne, og_padd, og_psub, og_pmul, List.getD_cons_zero, List.getD_cons_succ, List.set_cons_zero, List.set_cons_succ, List.length_cons, List.length_nil, List.cons_append, List.nil_append, List.replicate, List.append_nil, Nat.reduceAdd, Nat.reduceSub, Nat.reduceEqDiff, if_true, if_false, reduceIte, Int.reduceAdd, Int.reduceSub, Int.reduceMul, Int.reduceNeg, Int.reduceLT, Int.reduceLE, Int.cast_ofNat_Int, true_or, or_true, true_and, and_true, false_and, List.mem_cons, List.not_mem_nil, or_false, false_or, ne_eq]
    refine r_takes (w := 1011) (by unfold idW; omega) t2 r2 (fun q h3 r3 f3 => ⟨fun _ => r_rule (i := 0) (by decide) (txM_X t2 f3) (q.trans w0.2.2.1) r3 (drX (drX hd g2) f3) ok (fun h9 s9 f9 => fin h3 h9 (frX_tr g2 f3) s9 f9), fun z => absurd z (by decide)⟩) (fun q2 h3 r3 v3 f3 => ⟨fun z => absurd rfl z, fun _ => ?_⟩)
    rw [w0.2.2.1] at q2
    have g3 := frX_tr g2 f3
    have t3 := txM_X t2 f3
    rw [dn_if]
    simp -implicitDefEqProofs only [↓dn_den, ↓dn_loc, ↓dn_k, ↓dn_add, ↓dn_sub, ↓dn_mul, ↓dn_div, ↓dn_rem, ↓dn_bop, ↓dn_ladd, ↓dn_lsub, ↓dn_lmul, ↓dn_ldiv, ↓dn_lrem, ↓dn_land, ↓dn_l2i, ↓dn_neg, ↓dn_get, ↓dn_fix, ↓dn_ald, ↓dn_gld, ↓dn_yld, ↓dn_len, ↓dn_gln, ↓dn_cc, ↓dn_cb, ↓dn_and, ↓dn_or, ↓dn_not, ↓dn_cite, ↓dn_ec, ↓dn_ei, ↓dn_skip, ↓dn_seq, ↓dn_set, ↓dn_inc, ↓dn_putf, ↓dn_putz, ↓dn_ast, ↓dn_exp, ↓dn_ret, ↓dn_retz, ↓dn_retv, ↓dn_brk, ↓dn_cont, ↓dn_cs, ↓dn_sw, ↓dn_pop32, ↓dn_pop64, ↓dn_aop, ↓dn_call, ↓dn_max, ↓dn_min, ↓dn_acp, ↓dn_i2l, ↓dn_args0, ↓dn_args1, og_pad, og_ent, og_rlt, og_rle, og_rgt, og_rge, og_req, og_rne, og_padd, og_psub, og_pmul, List.getD_cons_zero, List.getD_cons_succ, List.set_cons_zero, List.set_cons_succ, List.length_cons, List.length_nil, List.cons_append, List.nil_append, List.replicate, List.append_nil, Nat.reduceAdd, Nat.reduceSub, Nat.reduceEqDiff, if_true, if_false, reduceIte, Int.reduceAdd, Int.reduceSub, Int.reduceMul, Int.reduceNeg, Int.reduceLT, Int.reduceLE, Int.cast_ofNat_Int, true_or, or_true, true_and, and_true, false_and, List.mem_cons, List.not_mem_nil, or_false, false_or, ne_eq]
    refine r_takes (w := 1012) (by unfold idW; omega) t3 r3 (fun q h4 r4 f4 => ⟨fun _ => r_rule (i := 1) (by decide) (txM_X t3 f4) (q.trans w0.2.2.2.1) r4 (drX (drX hd g3) f4) ok (fun h9 s9 f9 => fin h4 h9 (frX_tr g3 f4) s9 f9), fun z => absurd z (by decide)⟩) (fun q3 h4 r4 v4 f4 => ⟨fun z => absurd rfl z, fun _ => ?_⟩)
    rw [w0.2.2.2.1] at q3
    have g4 := frX_tr g3 f4
    have t4 := txM_X t3 f4
    rw [dn_if]
    simp -implicitDefEqProofs only [↓dn_den, ↓dn_loc, ↓dn_k, ↓dn_add, ↓dn_sub, ↓dn_mul, ↓dn_div, ↓dn_rem, ↓dn_bop, ↓dn_ladd, ↓dn_lsub, ↓dn_lmul, ↓dn_ldiv, ↓dn_lrem, ↓dn_land, ↓dn_l2i, ↓dn_neg, ↓dn_get, ↓dn_fix, ↓dn_ald, ↓dn_gld, ↓dn_yld, ↓dn_len, ↓dn_gln, ↓dn_cc, ↓dn_cb, ↓dn_and, ↓dn_or, ↓dn_not, ↓dn_cite, ↓dn_ec, ↓dn_ei, ↓dn_skip, ↓dn_seq, ↓dn_set, ↓dn_inc, ↓dn_putf, ↓dn_putz, ↓dn_ast, ↓dn_exp, ↓dn_ret, ↓dn_retz, ↓dn_retv, ↓dn_brk, ↓dn_cont, ↓dn_cs, ↓dn_sw, ↓dn_pop32, ↓dn_pop64, ↓dn_aop, ↓dn_call, ↓dn_max, ↓dn_min, ↓dn_acp, ↓dn_i2l, ↓dn_args0, ↓dn_args1, og_pad, og_ent, og_rlt, og_rle, og_rgt, og_rge, og_req, og_rne, og_padd, og_psub, og_pmul, List.getD_cons_zero, List.getD_cons_succ, List.set_cons_zero, List.set_cons_succ, List.length_cons, List.length_nil, List.cons_append, List.nil_append, List.replicate, List.append_nil, Nat.reduceAdd, Nat.reduceSub, Nat.reduceEqDiff, if_true, if_false, reduceIte, Int.reduceAdd, Int.reduceSub, Int.reduceMul, Int.reduceNeg, Int.reduceLT, Int.reduceLE, Int.cast_ofNat_Int, true_or, or_true, true_and, and_true, false_and, List.mem_cons, List.not_mem_nil, or_false, false_or, ne_eq]
    refine r_takes (w := 1013) (by unfold idW; omega) t4 r4 (fun q h5 r5 f5 => ⟨fun _ => r_rule (i := 2) (by decide) (txM_X t4 f5) (q.trans w0.2.2.2.2.1) r5 (drX (drX hd g4) f5) ok (fun h9 s9 f9 => fin h5 h9 (frX_tr g4 f5) s9 f9), fun z => absurd z (by decide)⟩) (fun q4 h5 r5 v5 f5 => ⟨fun z => absurd rfl z, fun _ => ?_⟩)
    rw [w0.2.2.2.2.1] at q4
    have g5 := frX_tr g4 f5
    have t5 := txM_X t4 f5
    rw [dn_if]
    simp -implicitDefEqProofs only [↓dn_den, ↓dn_loc, ↓dn_k, ↓dn_add, ↓dn_sub, ↓dn_mul, ↓dn_div, ↓dn_rem, ↓dn_bop, ↓dn_ladd, ↓dn_lsub, ↓dn_lmul, ↓dn_ldiv, ↓dn_lrem, ↓dn_land, ↓dn_l2i, ↓dn_neg, ↓dn_get, ↓dn_fix, ↓dn_ald, ↓dn_gld, ↓dn_yld, ↓dn_len, ↓dn_gln, ↓dn_cc, ↓dn_cb, ↓dn_and, ↓dn_or, ↓dn_not, ↓dn_cite, ↓dn_ec, ↓dn_ei, ↓dn_skip, ↓dn_seq, ↓dn_set, ↓dn_inc, ↓dn_putf, ↓dn_putz, ↓dn_ast, ↓dn_exp, ↓dn_ret, ↓dn_retz, ↓dn_retv, ↓dn_brk, ↓dn_cont, ↓dn_cs, ↓dn_sw, ↓dn_pop32, ↓dn_pop64, ↓dn_aop, ↓dn_call, ↓dn_max, ↓dn_min, ↓dn_acp, ↓dn_i2l, ↓dn_args0, ↓dn_args1, og_pad, og_ent, og_rlt, og_rle, og_rgt, og_rge, og_req, og_rne, og_padd, og_psub, og_pmul, List.getD_cons_zero, List.getD_cons_succ, List.set_cons_zero, List.set_cons_succ, List.length_cons, List.length_nil, List.cons_append, List.nil_append, List.replicate, List.append_nil, Nat.reduceAdd, Nat.reduceSub, Nat.reduceEqDiff, if_true, if_false, reduceIte, Int.reduceAdd, Int.reduceSub, Int.reduceMul, Int.reduceNeg, Int.reduceLT, Int.reduceLE, Int.cast_ofNat_Int, true_or, or_true, true_and, and_true, false_and, List.mem_cons, List.not_mem_nil, or_false, false_or, ne_eq]
    refine r_takes (w := 1014) (by unfold idW; omega) t5 r5 (fun q h6 r6 f6 => ⟨fun _ => r_rule (i := 3) (by decide) (txM_X t5 f6) (q.trans w0.2.2.2.2.2.1) r6 (drX (drX hd g5) f6) ok (fun h9 s9 f9 => fin h6 h9 (frX_tr g5 f6) s9 f9), fun z => absurd z (by decide)⟩) (fun q5 h6 r6 v6 f6 => ⟨fun z => absurd rfl z, fun _ => ?_⟩)
    rw [w0.2.2.2.2.2.1] at q5
    have g6 := frX_tr g5 f6
    have t6 := txM_X t5 f6
    refine r_asks (w := 1015) (by unfold idW; omega) t6 r6 (fun q h7 r7 f7 => r_rule (i := 4) (by decide) (txM_X t6 f7) (q.trans w0.2.2.2.2.2.2) r7 (drX (drX hd g6) f7) ok (fun h9 s9 f9 => fin h7 h9 (frX_tr g6 f7) s9 f9)) (fun q6 h7 l7 f7 => r_codesToldF (by rw [l7.1]; exact l7.2.2) (fin h7 h7 (frX_tr g6 f7) ?_ (fun _ _ _ => rfl)))
    rw [w0.2.2.2.2.2.2] at q6
    unfold pSt1
    rw [if_neg q0, if_neg q1, if_neg (by omega)]
    exact l7
  · rintro e1 h1 ⟨rfl, s1, f1, e47⟩
    simp -implicitDefEqProofs only [↓dn_den, ↓dn_loc, ↓dn_k, ↓dn_add, ↓dn_sub, ↓dn_mul, ↓dn_div, ↓dn_rem, ↓dn_bop, ↓dn_ladd, ↓dn_lsub, ↓dn_lmul, ↓dn_ldiv, ↓dn_lrem, ↓dn_land, ↓dn_l2i, ↓dn_neg, ↓dn_get, ↓dn_fix, ↓dn_ald, ↓dn_gld, ↓dn_yld, ↓dn_len, ↓dn_gln, ↓dn_cc, ↓dn_cb, ↓dn_and, ↓dn_or, ↓dn_not, ↓dn_cite, ↓dn_ec, ↓dn_ei, ↓dn_skip, ↓dn_seq, ↓dn_set, ↓dn_inc, ↓dn_putf, ↓dn_putz, ↓dn_ast, ↓dn_exp, ↓dn_if, ↓dn_ret, ↓dn_retz, ↓dn_retv, ↓dn_brk, ↓dn_cont, ↓dn_cs, ↓dn_sw, ↓dn_pop32, ↓dn_pop64, ↓dn_aop, ↓dn_call, ↓dn_max, ↓dn_min, ↓dn_acp, ↓dn_i2l, ↓dn_args0, ↓dn_args1, og_pad, og_ent, og_rlt, og_rle, og_rgt, og_rge, og_req, og_rne, og_padd, og_psub, og_pmul, List.getD_cons_zero, List.getD_cons_succ, List.set_cons_zero, List.set_cons_succ, List.length_cons, List.length_nil, List.cons_append, List.nil_append, List.replicate, List.append_nil, Nat.reduceAdd, Nat.reduceSub, Nat.reduceEqDiff, if_true, if_false, reduceIte, Int.reduceAdd, Int.reduceSub, Int.reduceMul, Int.reduceNeg, Int.reduceLT, Int.reduceLE, Int.cast_ofNat_Int, true_or, or_true, true_and, and_true, false_and, List.mem_cons, List.not_mem_nil, or_false, false_or, ne_eq, og_i32]
    have ht1 := txM_W ht f1
    cases e : pSt1 B n a D R with
    | inr z =>
      rw [e] at s1
      refine r_asksSign2 (t := .inr z) (by decide) ht1 s1 (fun h3 k3 f3 => ?_)
      rw [f3 1000 47 (by omega), e47]
      refine ⟨by omega, hK _ ?_ og_up_eq (frW_tr f1 (frW_tr (frX_W f3) (fun i k hp => by unfold og_up; exact if_neg (by omega))))⟩
      have : pSt B n (a, D, R) = .inr z := by unfold pSt; dsimp only; rw [e]; rfl
      rw [this]
      exact ⟨by rw [og_up_k (by decide)]; exact k3.1, by rw [og_up_k (by decide)]; exact k3.2.1, k3.2.2⟩
    | inl s =>
      rw [e] at s1
      refine r_asksSign2 (t := .inl s.1) (by decide) ht1 s1.1 (fun h3 k3 f3 => ?_)
      rw [f3 1000 47 (by omega), e47]
      refine ⟨by omega, hK _ ?_ og_up_eq (frW_tr f1 (frW_tr (frX_W f3) (fun i k hp => by unfold og_up; exact if_neg (by omega))))⟩
      have : pSt B n (a, D, R) = pEnd B n (.inl s) := by unfold pSt; dsimp only; rw [e]
      rw [this]
      unfold pEnd
      unfold tb pSg at k3
      dsimp only at k3 ⊢
      by_cases sg : sgn B n s.1 = 59
      · rw [if_pos sg] at k3 ⊢
        have dr := drM_fr (drX s1.2 f3) (h' := og_up h3 1000 47 (h 1000 47 + 1)) (fun i k hi => by unfold og_up; exact if_neg (by omega))
        obtain ⟨d1, d2, d3, c, d4, d5⟩ := dr
        have te := sgn_go (B := B) (n := n) (a := s.1) (by omega)
        exact ⟨refS_fr k3 (fun k hk => og_up_k (by omega)), d1, d2, d3, c, by show (c.length : Int) ≤ tE B n s.1; omega, d5⟩
      · rw [if_neg sg] at k3 ⊢
        exact ⟨by rw [og_up_k (by decide)]; exact k3.1, by rw [og_up_k (by decide)]; exact k3.2.1, k3.2.2⟩
end
end
