section
-- the class: statements
def rulC (h : Hp) (s : Int) (c : List Int) (R : Pr) : Prop := ∀ r, 8 ≤ r → r ≤ 12 → (R r = [] ∧ h (s + 2) r = 0 ∧ h (s + 3) r = 0) ∨ (R r ≠ [] ∧ ∃ c1 c2, c = c1 ++ R r ++ c2 ∧ h (s + 2) r = c1.length ∧ h (s + 3) r = (c1.length : Int) + (R r).length)
def drC (h : Hp) (p : Int) (s : QS) : Prop := isY h (p + 90) s.2.1 ∧ (∀ j, (0 ≤ j ∧ j < s.2.1 0 0) ∨ (6 ≤ j ∧ j < 6 + s.2.1 0 1) → h (p + 1) j = nPad (s.2.1 10 j)) ∧ ∃ c, (c.length : Int) ≤ s.1 ∧ scr h (p + 2) c ∧ rulC h (p + 2) c s.2.2
def stP (h : Hp) (p : Int) (B : Int → Int) (n : Int) (r : PQ) : Prop := match r with
  | .inl s => tokC h B n s.1 ∧ drC h p s
  | .inr z => fltC h z.1 z.2 ∧ 0 ≤ h (p + 2) 3 ∧ h (p + 2) 3 ≤ 1620
def frH (p : Int) (h h' : Hp) : Prop := ∀ i k, i ≠ 3 → i ≠ 5 → ¬ (p ≤ i ∧ i ≤ p + 9) → ¬ (p + 90 ≤ i ∧ i ≤ p + 99) → h' i k = h i k
theorem frH_rf {p : Int} {h : Hp} : frH p h h := fun _ _ _ _ _ _ => rfl
theorem frH_tr {p : Int} {h h1 h2 : Hp} (a : frH p h h1) (b : frH p h1 h2) : frH p h h2 := fun i k q r s t => (b i k q r s t).trans (a i k q r s t)
theorem frH_3 {p : Int} {h h' : Hp} (a : ∀ i k, i ≠ 3 → h' i k = h i k) : frH p h h' := fun i k q _ _ _ => a i k q
section
variable {h h0 h' : Hp} {B : Int → Int} {n a p : Int} {t : TS} {K : Int → Hp → Prop} {D : Yd} {R : Pr} {c : List Int}
theorem txC_H (hp : p = 30 ∨ p = 40) (ht : txC h B n) (hf : frH p h h') : txC h' B n := txC_fr ht (fun i k hi => hf i k (by omega) (by omega) (by omega) (by omega))
theorem rulC_fr {s : Int} (hr : rulC h s c R) (hf : ∀ i k, (i = s + 2 ∨ i = s + 3) → h' i k = h i k) : rulC h' s c R := fun r r0 r1 => by
  rw [hf _ _ (Or.inl rfl), hf _ _ (Or.inr rfl)]
  exact hr r r0 r1
theorem drC_fr {s : QS} (hr : drC h p s) (hf : ∀ i k, ((p + 1 ≤ i ∧ i ≤ p + 5) ∨ (p + 90 ≤ i ∧ i ≤ p + 99)) → h' i k = h i k) : drC h' p s := by
  obtain ⟨a, b, c, c1, c2, c3⟩ := hr
  refine ⟨isY_fr a (fun i k p q => hf i k (by omega)), fun j hj => by rw [hf _ _ (by omega)]; exact b j hj, c, c1, ⟨by rw [hf _ _ (by omega)]; exact c2.1, fun j hj => by rw [hf _ _ (by omega)]; exact c2.2 j hj⟩, rulC_fr c3 (fun i k hi => hf i k (by omega))⟩
theorem drC_size {s : QS} (hr : drC h p s) (hd : okD n s) (hn : n ≤ 1600) : 0 ≤ h (p + 2) 3 ∧ h (p + 2) 3 ≤ 1620 := by
  obtain ⟨-, -, c, c1, c2, -⟩ := hr
  have := hd.1
  rw [c2.1]
  omega
theorem nmC_of {s : QS} (hr : drC h p s) (hd : okD n s) : nmC h p s.2.1 := ⟨⟨hr.1.1.1, hr.1.1.2.1⟩, ⟨hd.2.1.1.1, hd.2.1.1.2.1, hd.2.1.1.2.2.1, hd.2.1.1.2.2.2.1⟩, fun j hj => ⟨hr.2.1 j hj, hd.2.2.2.2.2.1 j hj⟩⟩
theorem drC_grv {a0 : Int} (hr : drC h p (a0, D, R)) (hd : okD n (a0, D, R)) {b : Int} (hab : a0 ≤ b) (h0 : h' (p + 90) 0 = D 0 0 + 1) (hv : h' (p + 1) (D 0 0) = nPad (nmV B n a) ∧ h' (p + 90 + 1) (D 0 0) = tN B n (tI B n a 2) ∧ h' (p + 90 + 2) (D 0 0) = tN B n (tI B n a 4) ∧ h' (p + 90 + 3) (D 0 0) = tN B n (tI B n a 6) ∧ h' (p + 90 + 4) (D 0 0) = -1) (hp : p = 30 ∨ p = 40) (h6 : D 0 0 < 6)
    (hf : ∀ i k, i ≠ 3 → ¬ ((i = p + 1 ∨ (p + 91 ≤ i ∧ i ≤ p + 94)) ∧ k = D 0 0) → ¬ (i = p + 90 ∧ k = 0) → h' i k = h i k) : drC h' p (b, sGrv B n D a, R) := by
  obtain ⟨⟨y0, y1, y2, y3⟩, nm, c, c1, c2, c3⟩ := hr
  obtain ⟨v0, v1, v2, v3, v4⟩ := hv
  have hd3 := hd.2.2.1
  dsimp only at y0 y1 y2 y3 nm c1 c3 hd3
  refine ⟨⟨?_, fun k k0 k1 => ?_, fun k k0 k1 => ?_, fun k k0 k1 => ?_⟩, fun j hj => ?_, c, by show (c.length : Int) ≤ b; omega, ⟨by rw [hf _ _ (by omega) (by omega) (by omega)]; exact c2.1, fun j hj => by rw [hf _ _ (by omega) (by omega) (by omega)]; exact c2.2 j hj⟩, rulC_fr c3 (fun i k hi => hf i k (by omega) (by omega) (by omega))⟩
  · dsimp only
    rw [sGrv_0, sGrv_0k (by decide), sGrv_0k (by decide), sGrv_0k (by decide), hf _ 1 (by omega) (by omega) (by omega), hf _ 2 (by omega) (by omega) (by omega), hf _ 3 (by omega) (by omega) (by omega)]
    exact ⟨h0, y0.2⟩
  · dsimp only at k1 ⊢
    rw [sGrv_0] at k1
    by_cases e : k = D 0 0
    · subst e
      rw [sGrv_1, sGrv_2, sGrv_3, sGrv_4]
      exact ⟨v1, v2, v3, v4⟩
    · rw [sGrv_c (by decide) e, sGrv_c (by decide) e, sGrv_c (by decide) e, sGrv_c (by decide) e, hf _ _ (by omega) (by omega) (by omega), hf _ _ (by omega) (by omega) (by omega), hf _ _ (by omega) (by omega) (by omega), hf _ _ (by omega) (by omega) (by omega)]
      exact y1 k k0 (by omega)
  · dsimp only at k1 ⊢
    rw [sGrv_0k (by decide)] at k1
    rw [sGrv_o (by omega), sGrv_o (by omega), sGrv_o (by omega), sGrv_o (by omega), hf _ _ (by omega) (by omega) (by omega), hf _ _ (by omega) (by omega) (by omega), hf _ _ (by omega) (by omega) (by omega), hf _ _ (by omega) (by omega) (by omega)]
    exact y2 k k0 k1
  · dsimp only at k1
    rw [sGrv_0k (by decide), hd3.2] at k1
    omega
  · dsimp only at hj ⊢
    rw [sGrv_0, sGrv_0k (by decide)] at hj
    by_cases e : j = D 0 0
    · subst e
      rw [sGrv_n]; exact v0
    · rw [sGrv_c (by decide) e, hf _ _ (by omega) (by omega) (by omega)]
      exact nm j (by omega)
theorem drC_prs {a0 : Int} (hr : drC h p (a0, D, R)) (hd : okD n (a0, D, R)) {b : Int} (hab : a0 ≤ b) (h0 : h' (p + 90) 1 = D 0 1 + 1) (hv : h' (p + 1) (6 + D 0 1) = nPad (nmV B n a) ∧ h' (p + 90 + 5) (D 0 1) = tN B n (tI B n a 2) ∧ h' (p + 90 + 6) (D 0 1) = tN B n (tI B n a 4) ∧ h' (p + 90 + 7) (D 0 1) = tN B n (tI B n a 6) ∧ h' (p + 90 + 8) (D 0 1) = 1) (hp : p = 30 ∨ p = 40) (h6 : D 0 1 < 8)
    (hf : ∀ i k, i ≠ 3 → ¬ (i = p + 1 ∧ k = 6 + D 0 1) → ¬ ((p + 95 ≤ i ∧ i ≤ p + 98) ∧ k = D 0 1) → ¬ (i = p + 90 ∧ k = 1) → h' i k = h i k) : drC h' p (b, sPrs B n D a, R) := by
  obtain ⟨⟨y0, y1, y2, y3⟩, nm, c, c1, c2, c3⟩ := hr
  obtain ⟨v0, v1, v2, v3, v4⟩ := hv
  have hd3 := hd.2.2.1
  have hd2 := hd.2.1.1
  dsimp only at y0 y1 y2 y3 nm c1 c3 hd3 hd2
  refine ⟨⟨?_, fun k k0 k1 => ?_, fun k k0 k1 => ?_, fun k k0 k1 => ?_⟩, fun j hj => ?_, c, by show (c.length : Int) ≤ b; omega, ⟨by rw [hf _ _ (by omega) (by omega) (by omega) (by omega)]; exact c2.1, fun j hj => by rw [hf _ _ (by omega) (by omega) (by omega) (by omega)]; exact c2.2 j hj⟩, rulC_fr c3 (fun i k hi => hf i k (by omega) (by omega) (by omega) (by omega))⟩
  · dsimp only
    rw [sPrs_0, sPrs_0k (by decide), sPrs_0k (by decide), sPrs_0k (by decide), hf _ 0 (by omega) (by omega) (by omega) (by omega), hf _ 2 (by omega) (by omega) (by omega) (by omega), hf _ 3 (by omega) (by omega) (by omega) (by omega)]
    exact ⟨y0.1, h0, y0.2.2⟩
  · dsimp only at k1 ⊢
    rw [sPrs_0k (by decide)] at k1
    rw [sPrs_o (by omega), sPrs_o (by omega), sPrs_o (by omega), sPrs_o (by omega), hf _ _ (by omega) (by omega) (by omega) (by omega), hf _ _ (by omega) (by omega) (by omega) (by omega), hf _ _ (by omega) (by omega) (by omega) (by omega), hf _ _ (by omega) (by omega) (by omega) (by omega)]
    exact y1 k k0 k1
  · dsimp only at k1 ⊢
    rw [sPrs_0] at k1
    by_cases e : k = D 0 1
    · subst e
      rw [sPrs_1, sPrs_2, sPrs_3, sPrs_4]
      exact ⟨v1, v2, v3, v4⟩
    · rw [sPrs_c (by decide) (by decide) e, sPrs_c (by decide) (by decide) e, sPrs_c (by decide) (by decide) e, sPrs_c (by decide) (by decide) e, hf _ _ (by omega) (by omega) (by omega) (by omega), hf _ _ (by omega) (by omega) (by omega) (by omega), hf _ _ (by omega) (by omega) (by omega) (by omega), hf _ _ (by omega) (by omega) (by omega) (by omega)]
      exact y2 k k0 (by omega)
  · dsimp only at k1
    rw [sPrs_0k (by decide), hd3.2] at k1
    omega
  · dsimp only at hj ⊢
    rw [sPrs_0, sPrs_0k (by decide)] at hj
    by_cases e : j = 6 + D 0 1
    · subst e
      rw [sPrs_n]; exact v0
    · rw [sPrs_m e, hf _ _ (by omega) (by omega) (by omega) (by omega)]
      exact nm j (by omega)
theorem rulC_put {s w : Int} {q : List Int} (hr : rulC h s c R) (hq : q ≠ []) (h2 : h' (s + 2) w = c.length) (h3 : h' (s + 3) w = ((c ++ q).length : Int)) (hf : ∀ i k, (i = s + 2 ∨ i = s + 3) → k ≠ w → h' i k = h i k) : rulC h' s (c ++ q) (fun r => if r = w then q else R r) := fun r r0 r1 => by
  dsimp only
  by_cases e : r = w
  · subst e
    rw [if_pos rfl]
    refine Or.inr ⟨hq, c, [], by rw [List.append_nil], h2, ?_⟩
    rw [h3, List.length_append]; omega
  · rw [if_neg e, hf _ _ (Or.inl rfl) e, hf _ _ (Or.inr rfl) e]
    rcases hr r r0 r1 with z | ⟨z, c1, c2, e1, e2⟩
    · exact Or.inl z
    · exact Or.inr ⟨z, c1, c2 ++ q, by rw [e1]; simp only [List.append_assoc], e2⟩
theorem rul_ne {w b : Int} {q : List Int} {x : Bool} (h : gR B n w x a [] = .inl (b, q)) : q ≠ [] ∧ ∀ c, gR B n w x a c = .inl (b, c ++ q) := by
  rcases ty_gR (B := B) (n := n) (pu := w) x a with ⟨a', p', u, e', o, w1, w2⟩ | ⟨z, e'⟩
  · have h2 := e' []
    rw [h] at h2
    have e2 := Sum.inl.inj h2
    rw [List.nil_append, Prod.mk.injEq] at e2
    rw [e2.1, e2.2]
    exact ⟨fun z => (by rw [z] at w1; cases w1), e'⟩
  · rw [e' []] at h; cases h
theorem rul_in {w : Int} {z : Int × Int} {x : Bool} (h : gR B n w x a [] = .inr z) (c : List Int) : gR B n w x a c = .inr z := by
  rcases ty_gR (B := B) (n := n) (pu := w) x a with ⟨a', p', u, e', o, w1, w2⟩ | ⟨z', e'⟩
  · rw [e' []] at h; cases h
  · rw [e' []] at h
    rw [e' c]; exact h
set_option maxHeartbeats 400000 in
theorem w_readStatement (hp : p = 30 ∨ p = 40) (ht : txC h B n) (hs : stP h p B n (.inl (a, D, R))) (hd : okD n (a, D, R)) (hK : ∀ h', stP h' p B n (pSt1 B n a D R) → frH p h h' → K 0 h') : m_Parish_readStatement [p, 3, 5] h K := by
  have hk : tokC h B n a := hs.1
  have hr : drC h p (a, D, R) := hs.2
  have hn := ht.2.2
  have ha : 0 ≤ a ∧ a ≤ n := hd.1
  have te := tE_le (B := B) ha.2
  have sz := drC_size hr hd hn.2.1
  have wr : wrd B n a = -1 ∨ wrd B n a = tW B n a := by unfold wrd; split <;> omega
  have wg := tW_rg B n a
  have flt : ∀ k, k ≠ 0 → pSt1 B n a D R = .inr (k, tS B n a) → m_Tokens_fail [3, k] h (fun _ h' => K 0 h') := fun k k0 e => w_fail k0 hk (fun h1 l1 f1 => hK h1 (by rw [e]; exact ⟨l1, by rw [f1 _ _ (by omega)]; exact sz⟩) (frH_3 f1))
  have ew : (if h 3 2 = 1 then h 3 5 else -1) = wrd B n a := by
    unfold wrd
    rw [hk.2.2.1.1]
    by_cases q : tK B n a = 1
    · rw [if_pos q, if_pos q, (hk.2.2.2.1 q).1]
    · rw [if_neg q, if_neg q]
  unfold m_Parish_readStatement
  simp -implicitDefEqProofs only [↓dn_den, ↓dn_loc, ↓dn_k, ↓dn_add, ↓dn_sub, ↓dn_mul, ↓dn_div, ↓dn_rem, ↓dn_bop, ↓dn_ladd, ↓dn_lsub, ↓dn_lmul, ↓dn_ldiv, ↓dn_lrem, ↓dn_land, ↓dn_l2i, ↓dn_neg, ↓dn_get, ↓dn_fix, ↓dn_ald, ↓dn_gld, ↓dn_yld, ↓dn_len, ↓dn_gln, ↓dn_cc, ↓dn_cb, ↓dn_and, ↓dn_or, ↓dn_not, ↓dn_cite, ↓dn_ec, ↓dn_ei, ↓dn_skip, ↓dn_seq, ↓dn_set, ↓dn_inc, ↓dn_putf, ↓dn_putz, ↓dn_ast, ↓dn_exp, ↓dn_ret, ↓dn_retz, ↓dn_retv, ↓dn_brk, ↓dn_cont, ↓dn_cs, ↓dn_sw, ↓dn_pop32, ↓dn_pop64, ↓dn_aop, ↓dn_call, ↓dn_max, ↓dn_min, ↓dn_acp, ↓dn_i2l, ↓dn_args0, ↓dn_args1, og_pad, og_ent, og_rlt, og_rle, og_rgt, og_rge, og_req, og_rne, og_padd, og_psub, og_pmul, List.getD_cons_zero, List.getD_cons_succ, List.set_cons_zero, List.set_cons_succ, List.length_cons, List.length_nil, List.cons_append, List.nil_append, List.replicate, List.append_nil, Nat.reduceAdd, Nat.reduceSub, Nat.reduceEqDiff, if_true, if_false, reduceIte, Int.reduceAdd, Int.reduceSub, Int.reduceMul, Int.reduceNeg, Int.reduceLT, Int.reduceLE, Int.cast_ofNat_Int, true_or, or_true, true_and, and_true, false_and, List.mem_cons, List.not_mem_nil, or_false, false_or, ne_eq]
  refine k_word ?_
  rw [ew]
  refine pc_if (pc_and (pc_and pc_cc pc_cc) (pc_or pc_cc pc_cc)) (fun q => ?_) (fun q => ?_)
  · simp only [List.getD_cons_zero, List.getD_cons_succ, og_rne, og_rlt, og_rgt] at q
    simp -implicitDefEqProofs only [↓dn_den, ↓dn_loc, ↓dn_k, ↓dn_add, ↓dn_sub, ↓dn_mul, ↓dn_div, ↓dn_rem, ↓dn_bop, ↓dn_ladd, ↓dn_lsub, ↓dn_lmul, ↓dn_ldiv, ↓dn_lrem, ↓dn_land, ↓dn_l2i, ↓dn_neg, ↓dn_get, ↓dn_fix, ↓dn_ald, ↓dn_gld, ↓dn_yld, ↓dn_len, ↓dn_gln, ↓dn_cc, ↓dn_cb, ↓dn_and, ↓dn_or, ↓dn_not, ↓dn_cite, ↓dn_ec, ↓dn_ei, ↓dn_skip, ↓dn_seq, ↓dn_set, ↓dn_inc, ↓dn_putf, ↓dn_putz, ↓dn_ast, ↓dn_exp, ↓dn_if, ↓dn_ret, ↓dn_retz, ↓dn_retv, ↓dn_brk, ↓dn_cont, ↓dn_cs, ↓dn_sw, ↓dn_pop32, ↓dn_pop64, ↓dn_aop, ↓dn_call, ↓dn_max, ↓dn_min, ↓dn_acp, ↓dn_i2l, ↓dn_args0, ↓dn_args1, og_pad, og_ent, og_rlt, og_rle, og_rgt, og_rge, og_req, og_rne, og_padd, og_psub, og_pmul, List.getD_cons_zero, List.getD_cons_succ, List.set_cons_zero, List.set_cons_succ, List.length_cons, List.length_nil, List.cons_append, List.nil_append, List.replicate, List.append_nil, Nat.reduceAdd, Nat.reduceSub, Nat.reduceEqDiff, if_true, if_false, reduceIte, Int.reduceAdd, Int.reduceSub, Int.reduceMul, Int.reduceNeg, Int.reduceLT, Int.reduceLE, Int.cast_ofNat_Int, true_or, or_true, true_and, and_true, false_and, List.mem_cons, List.not_mem_nil, or_false, false_or, ne_eq]
    refine flt 1 (by decide) ?_
    unfold pSt1
    rw [if_neg (by omega), if_neg (by omega), if_neg (by omega)]
  · simp only [List.getD_cons_zero, List.getD_cons_succ, og_rne, og_rlt, og_rgt] at q
    have hw : wrd B n a = 0 ∨ wrd B n a = 4 ∨ (8 ≤ wrd B n a ∧ wrd B n a ≤ 12) := by omega
    have g := wrd_go (B := B) (n := n) (a := a) (by omega)
    rw [dn_if]
    simp -implicitDefEqProofs only [↓dn_den, ↓dn_loc, ↓dn_k, ↓dn_add, ↓dn_sub, ↓dn_mul, ↓dn_div, ↓dn_rem, ↓dn_bop, ↓dn_ladd, ↓dn_lsub, ↓dn_lmul, ↓dn_ldiv, ↓dn_lrem, ↓dn_land, ↓dn_l2i, ↓dn_neg, ↓dn_get, ↓dn_fix, ↓dn_ald, ↓dn_gld, ↓dn_yld, ↓dn_len, ↓dn_gln, ↓dn_cc, ↓dn_cb, ↓dn_and, ↓dn_or, ↓dn_not, ↓dn_cite, ↓dn_ec, ↓dn_ei, ↓dn_skip, ↓dn_seq, ↓dn_set, ↓dn_inc, ↓dn_putf, ↓dn_putz, ↓dn_ast, ↓dn_exp, ↓dn_ret, ↓dn_retz, ↓dn_retv, ↓dn_brk, ↓dn_cont, ↓dn_cs, ↓dn_sw, ↓dn_pop32, ↓dn_pop64, ↓dn_aop, ↓dn_call, ↓dn_max, ↓dn_min, ↓dn_acp, ↓dn_i2l, ↓dn_args0, ↓dn_args1, og_pad, og_ent, og_rlt, og_rle, og_rgt, og_rge, og_req, og_rne, og_padd, og_psub, og_pmul, List.getD_cons_zero, List.getD_cons_succ, List.set_cons_zero, List.set_cons_succ, List.length_cons, List.length_nil, List.cons_append, List.nil_append, List.replicate, List.append_nil, Nat.reduceAdd, Nat.reduceSub, Nat.reduceEqDiff, if_true, if_false, reduceIte, Int.reduceAdd, Int.reduceSub, Int.reduceMul, Int.reduceNeg, Int.reduceLT, Int.reduceLE, Int.cast_ofNat_Int, true_or, or_true, true_and, and_true, false_and, List.mem_cons, List.not_mem_nil, or_false, false_or, ne_eq]
    refine w_isOne hw ?_
    rw [hr.1.1.1, hr.1.1.2.1]
    dsimp only
    rcases hw with w0 | w4 | w8
    · rw [if_pos w0]
      by_cases f : 6 ≤ D 0 0
      · rw [if_pos f]
        refine ⟨fun _ => flt 5 (by decide) ?_, fun z => absurd z (by decide)⟩
        unfold pSt1
        rw [if_pos w0, if_pos f]
      · rw [if_neg f]
        refine ⟨fun z => absurd (by trivial) z, fun _ => w_step ht hk (fun h1 k1 f1 => ?_)⟩
        have hr1 : drC h1 p (a, D, R) := drC_fr hr (fun i k hi => f1 i k (by omega))
        refine pc_if pc_cc (fun _ => ?_) (fun z => absurd w0 z)
        simp -implicitDefEqProofs only [↓dn_den, ↓dn_loc, ↓dn_k, ↓dn_add, ↓dn_sub, ↓dn_mul, ↓dn_div, ↓dn_rem, ↓dn_bop, ↓dn_ladd, ↓dn_lsub, ↓dn_lmul, ↓dn_ldiv, ↓dn_lrem, ↓dn_land, ↓dn_l2i, ↓dn_neg, ↓dn_get, ↓dn_fix, ↓dn_ald, ↓dn_gld, ↓dn_yld, ↓dn_len, ↓dn_gln, ↓dn_cc, ↓dn_cb, ↓dn_and, ↓dn_or, ↓dn_not, ↓dn_cite, ↓dn_ec, ↓dn_ei, ↓dn_skip, ↓dn_seq, ↓dn_set, ↓dn_inc, ↓dn_putf, ↓dn_putz, ↓dn_ast, ↓dn_exp, ↓dn_if, ↓dn_ret, ↓dn_retz, ↓dn_retv, ↓dn_brk, ↓dn_cont, ↓dn_cs, ↓dn_sw, ↓dn_pop32, ↓dn_pop64, ↓dn_aop, ↓dn_call, ↓dn_max, ↓dn_min, ↓dn_acp, ↓dn_i2l, ↓dn_args0, ↓dn_args1, og_pad, og_ent, og_rlt, og_rle, og_rgt, og_rge, og_req, og_rne, og_padd, og_psub, og_pmul, List.getD_cons_zero, List.getD_cons_succ, List.set_cons_zero, List.set_cons_succ, List.length_cons, List.length_nil, List.cons_append, List.nil_append, List.replicate, List.append_nil, Nat.reduceAdd, Nat.reduceSub, Nat.reduceEqDiff, if_true, if_false, reduceIte, Int.reduceAdd, Int.reduceSub, Int.reduceMul, Int.reduceNeg, Int.reduceLT, Int.reduceLE, Int.cast_ofNat_Int, true_or, or_true, true_and, and_true, false_and, List.mem_cons, List.not_mem_nil, or_false, false_or, ne_eq]
        refine w_readGrave (D := D) hp (by rw [hr1.1.1.1]; have := hd.2.1.1.1; dsimp only at this ⊢; omega) hr1.1.1.1 (txC_fr ht (fun i k hi => f1 i k (by omega))) k1 (nmC_of hr1 hd) (fun h2 k2 v0 v1 f2 => hK h2 ?_ (fun i k p1 p2 p3 p4 => ?_))
        · unfold pSt1
          rw [if_pos w0, if_neg f]
          have e0 := hr1.1.1.1
          dsimp only at e0
          cases e : pGrv B n D (tE B n a) with
          | inr z =>
            rw [e] at k2
            exact ⟨k2, by rw [f2 _ _ (by omega) (by omega) (by omega), f1 _ _ (by omega)]; exact sz⟩
          | inl b =>
            have r := okD_grv hd f ⟨by omega, te⟩ e
            have v1 := v1 b e
            rw [e] at k2
            rw [e0] at v0 v1 f2
            exact ⟨k2, drC_grv hr1 hd (by omega) v0 v1 hp (by omega) f2⟩
        · rw [f2 i k p1 (by omega) (by omega), f1 i k p1]
    · rw [if_neg (by omega), if_pos w4]
      by_cases f : 8 ≤ D 0 1
      · rw [if_pos f]
        refine ⟨fun _ => flt 5 (by decide) ?_, fun z => absurd z (by decide)⟩
        unfold pSt1
        rw [if_neg (by omega), if_pos w4, if_pos f]
      · rw [if_neg f]
        refine ⟨fun z => absurd (by trivial) z, fun _ => w_step ht hk (fun h1 k1 f1 => ?_)⟩
        have hr1 : drC h1 p (a, D, R) := drC_fr hr (fun i k hi => f1 i k (by omega))
        refine pc_if pc_cc (fun z => absurd (show wrd B n a = 0 from z) (by omega)) (fun _ => pc_if pc_cc (fun _ => ?_) (fun z => absurd w4 z))
        simp -implicitDefEqProofs only [↓dn_den, ↓dn_loc, ↓dn_k, ↓dn_add, ↓dn_sub, ↓dn_mul, ↓dn_div, ↓dn_rem, ↓dn_bop, ↓dn_ladd, ↓dn_lsub, ↓dn_lmul, ↓dn_ldiv, ↓dn_lrem, ↓dn_land, ↓dn_l2i, ↓dn_neg, ↓dn_get, ↓dn_fix, ↓dn_ald, ↓dn_gld, ↓dn_yld, ↓dn_len, ↓dn_gln, ↓dn_cc, ↓dn_cb, ↓dn_and, ↓dn_or, ↓dn_not, ↓dn_cite, ↓dn_ec, ↓dn_ei, ↓dn_skip, ↓dn_seq, ↓dn_set, ↓dn_inc, ↓dn_putf, ↓dn_putz, ↓dn_ast, ↓dn_exp, ↓dn_if, ↓dn_ret, ↓dn_retz, ↓dn_retv, ↓dn_brk, ↓dn_cont, ↓dn_cs, ↓dn_sw, ↓dn_pop32, ↓dn_pop64, ↓dn_aop, ↓dn_call, ↓dn_max, ↓dn_min, ↓dn_acp, ↓dn_i2l, ↓dn_args0, ↓dn_args1, og_pad, og_ent, og_rlt, og_rle, og_rgt, og_rge, og_req, og_rne, og_padd, og_psub, og_pmul, List.getD_cons_zero, List.getD_cons_succ, List.set_cons_zero, List.set_cons_succ, List.length_cons, List.length_nil, List.cons_append, List.nil_append, List.replicate, List.append_nil, Nat.reduceAdd, Nat.reduceSub, Nat.reduceEqDiff, if_true, if_false, reduceIte, Int.reduceAdd, Int.reduceSub, Int.reduceMul, Int.reduceNeg, Int.reduceLT, Int.reduceLE, Int.cast_ofNat_Int, true_or, or_true, true_and, and_true, false_and, List.mem_cons, List.not_mem_nil, or_false, false_or, ne_eq]
        refine w_readPerson (D := D) hp (by rw [hr1.1.1.2.1]; have := hd.2.1.1.2.2.1; dsimp only at this ⊢; omega) hr1.1.1.2.1 (txC_fr ht (fun i k hi => f1 i k (by omega))) k1 (nmC_of hr1 hd) (fun h2 k2 v0 v1 f2 => hK h2 ?_ (fun i k p1 p2 p3 p4 => ?_))
        · unfold pSt1
          rw [if_neg (by omega), if_pos w4, if_neg f]
          have e0 := hr1.1.1.2.1
          dsimp only at e0
          cases e : pPrs B n D (tE B n a) with
          | inr z =>
            rw [e] at k2
            exact ⟨k2, by rw [f2 _ _ (by omega) (by omega) (by omega) (by omega), f1 _ _ (by omega)]; exact sz⟩
          | inl b =>
            have r := okD_prs hd f ⟨by omega, te⟩ e
            have v1 := v1 b e
            rw [e] at k2
            rw [e0] at v0 v1 f2
            exact ⟨k2, drC_prs hr1 hd (by omega) v0 v1 hp (by omega) f2⟩
        · rw [f2 i k p1 (by omega) (by omega) (by omega), f1 i k p1]
    · rw [if_neg (by omega), if_neg (by omega)]
      have hn0 := hr
      obtain ⟨-, -, c, c1, c2, c3⟩ := hn0
      dsimp only at c1 c3
      have hold : h (p + 2 + 2) (wrd B n a) < h (p + 2 + 3) (wrd B n a) ↔ ¬ (R (wrd B n a)).length = 0 := by
        rcases c3 (wrd B n a) w8.1 w8.2 with ⟨z1, z2, z3⟩ | ⟨z1, d1, d2, e1, e2, e3⟩
        · rw [z1, z2, z3]; simp
        · have : 0 < (R (wrd B n a)).length := List.length_pos_iff.mpr z1
          rw [e2, e3]; omega
      by_cases f : (R (wrd B n a)).length = 0
      · rw [if_neg (fun z => hold.mp z f)]
        refine ⟨fun z => absurd (by trivial) z, fun _ => w_step ht hk (fun h1 k1 f1 => ?_)⟩
        have hr1 : drC h1 p (a, D, R) := drC_fr hr (fun i k hi => f1 i k (by omega))
        have s1 : scr h1 (p + 2) c := ⟨by rw [f1 _ _ (by omega)]; exact c2.1, fun j hj => by rw [f1 _ _ (by omega)]; exact c2.2 j hj⟩
        have r1 : rulC h1 (p + 2) c R := rulC_fr c3 (fun i k hi => f1 i k (by omega))
        refine pc_if pc_cc (fun z => absurd (show wrd B n a = 0 from z) (by omega)) (fun _ => pc_if pc_cc (fun z => absurd (show wrd B n a = 4 from z) (by omega)) (fun _ => ?_))
        simp -implicitDefEqProofs only [↓dn_den, ↓dn_loc, ↓dn_k, ↓dn_add, ↓dn_sub, ↓dn_mul, ↓dn_div, ↓dn_rem, ↓dn_bop, ↓dn_ladd, ↓dn_lsub, ↓dn_lmul, ↓dn_ldiv, ↓dn_lrem, ↓dn_land, ↓dn_l2i, ↓dn_neg, ↓dn_get, ↓dn_fix, ↓dn_ald, ↓dn_gld, ↓dn_yld, ↓dn_len, ↓dn_gln, ↓dn_cc, ↓dn_cb, ↓dn_and, ↓dn_or, ↓dn_not, ↓dn_cite, ↓dn_ec, ↓dn_ei, ↓dn_skip, ↓dn_seq, ↓dn_set, ↓dn_inc, ↓dn_putf, ↓dn_putz, ↓dn_ast, ↓dn_exp, ↓dn_if, ↓dn_ret, ↓dn_retz, ↓dn_retv, ↓dn_brk, ↓dn_cont, ↓dn_cs, ↓dn_sw, ↓dn_pop32, ↓dn_pop64, ↓dn_aop, ↓dn_call, ↓dn_max, ↓dn_min, ↓dn_acp, ↓dn_i2l, ↓dn_args0, ↓dn_args1, og_pad, og_ent, og_rlt, og_rle, og_rgt, og_rge, og_req, og_rne, og_padd, og_psub, og_pmul, List.getD_cons_zero, List.getD_cons_succ, List.set_cons_zero, List.set_cons_succ, List.length_cons, List.length_nil, List.cons_append, List.nil_append, List.replicate, List.append_nil, Nat.reduceAdd, Nat.reduceSub, Nat.reduceEqDiff, if_true, if_false, reduceIte, Int.reduceAdd, Int.reduceSub, Int.reduceMul, Int.reduceNeg, Int.reduceLT, Int.reduceLE, Int.cast_ofNat_Int, true_or, or_true, true_and, and_true, false_and, List.mem_cons, List.not_mem_nil, or_false, false_or, ne_eq]
        have go : ∀ x, ((x = 1 ∧ decide (wrd B n a = 9) = true) ∨ (x = 0 ∧ decide (wrd B n a = 9) = false)) → m_Grammar_readRule [5, p + 2, wrd B n a, x] h1 (fun _ h' => K 0 h') := by
          intro x hx
          refine w_readRule (s := p + 2) (a := tE B n a) (c := c) (by omega) ⟨w8.1, by omega⟩ hx (txC_fr ht (fun i k hi => f1 i k (by omega))) ⟨k1, s1⟩ ⟨by show 0 ≤ tE B n a; omega, te, by show (c.length : Int) ≤ tE B n a; omega⟩ (fun h2 k2 v2 f2 => hK h2 ?_ (fun i k p1 p2 p3 p4 => ?_))
          · unfold pSt1
            rw [if_neg (by omega), if_neg (by omega), if_pos w8, if_pos f]
            cases e : gR B n (wrd B n a) (decide (wrd B n a = 9)) (tE B n a) [] with
            | inr z =>
              rw [rul_in e c] at k2
              exact k2
            | inl q =>
              obtain ⟨b, q⟩ := q
              have rn := rul_ne e
              rw [rn.2 c] at k2 v2
              have v2 := v2 b (c ++ q) rfl
              have ad := adv_gR (B := B) (n := n) (pu := wrd B n a) (decide (wrd B n a = 9)) (tE B n a) c (by omega) te
              rw [rn.2 c] at ad
              have ad3 : ((c ++ q).length : Int) + tE B n a ≤ c.length + b := ad.2.2
              obtain ⟨y1, y2, -⟩ := hr1
              refine ⟨k2.1, isY_fr y1 (fun i k p q => f2 i k (by omega) (by omega) (by omega) (by omega) (by omega)), fun j hj => ?_, c ++ q, ?_, k2.2, rulC_put r1 rn.1 v2.1 v2.2 (fun i k hi hk => f2 i k (by omega) (by omega) (by omega) (by omega) (by omega))⟩
              · rw [f2 _ _ (by omega) (by omega) (by omega) (by omega) (by omega)]
                exact y2 j hj
              · show ((c ++ q).length : Int) ≤ b
                omega
          · rw [f2 i k p1 p2 (by omega) (by omega) (by omega), f1 i k p1]
        refine ⟨fun z => go 1 (Or.inl ⟨rfl, decide_eq_true z⟩), fun z => go 0 (Or.inr ⟨rfl, decide_eq_false z⟩)⟩
      · rw [if_pos (hold.mpr f)]
        refine ⟨fun _ => flt 5 (by decide) ?_, fun z => absurd z (by decide)⟩
        unfold pSt1
        rw [if_neg (by omega), if_neg (by omega), if_pos w8, if_neg f]
end
end
