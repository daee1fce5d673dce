section
-- what would tell most: the class
def tFw (P : Pr) (A : Yd) (p : Int) (b m g : Nat) (w : Int) : Bool := b.testBit w.toNat && sFill (sIt P (sUp A 7 p w) (m + 1)) (g : Int)
def tV (f : Nat → Nat → Int) (n : Int) (c : Nat) : Int := max (f (c / 6) (c % 6)) (n - f (c / 6) (c % 6))
def tRow (V : Nat → Int) (m found : Nat) : Nat → Nat
  | 0 => found
  | g + 1 => if V (6 * m + g) < V (tRow V m found g) then 6 * m + g else tRow V m found g
def tAll (V : Nat → Int) (G : Nat) : Nat → Nat
  | 0 => 0
  | m + 1 => tRow V m (tAll V G m) G
theorem tRow_s (V : Nat → Int) (m found g : Nat) : tRow V m found (g + 1) = if V (6 * m + g) < V (tRow V m found g) then 6 * m + g else tRow V m found g := rfl
theorem tAll_s (V : Nat → Int) (G m : Nat) : tAll V G (m + 1) = tRow V m (tAll V G m) G := rfl
theorem tRow_ok {V : Nat → Int} {m found G L : Nat} (hG : G ≤ 6) (hm : m < L) (hf : found / 6 < L ∧ found % 6 < G) : ∀ g : Nat, g ≤ G → tRow V m found g / 6 < L ∧ tRow V m found g % 6 < G
  | 0, _ => hf
  | g + 1, hg => by
    have ih := tRow_ok (V := V) hG hm hf g (by omega)
    rw [tRow_s]
    split
    · omega
    · exact ih
theorem tAll_ok {V : Nat → Int} {G L : Nat} (hG : G ≤ 6) (hG0 : 0 < G) (hL : 0 < L) : ∀ m : Nat, m ≤ L → tAll V G m / 6 < L ∧ tAll V G m % 6 < G
  | 0, _ => ⟨by show 0 / 6 < L; omega, by show 0 % 6 < G; omega⟩
  | m + 1, hm => by
    rw [tAll_s]
    exact tRow_ok hG (by omega) (tAll_ok hG hG0 hL m (by omega)) G (Nat.le_refl G)
def sLst (A : Yd) : Nat := (min 30 (999 - A 0 2)).toNat
def sTv (P : Pr) (A : Yd) (p : Int) (b : Nat) : Nat → Int := tV (fun m g => sCnt (tFw P A p b m g) 10) (sBc b)
def sTells (P : Pr) (A : Yd) (Sn : Int → Int) (R p w : Int) : Int :=
  if ((0 ≤ p ∧ p < A 0 1) ∧ sLive A p = true) ∧ (0 ≤ w ∧ w ≤ 2) ∧ A 0 0 ≠ 0 ∧ A 0 2 < 999 ∧ sWl P A Sn R p ≠ 0 then
    (if w = 0 then ((tAll (sTv P A p (sWl P A Sn R p)) (sNg A) (sLst A) / 6 + 1 : Nat) : Int) else if w = 1 then ((tAll (sTv P A p (sWl P A Sn R p)) (sNg A) (sLst A) % 6 : Nat) : Int) else sTv P A p (sWl P A Sn R p) (tAll (sTv P A p (sWl P A Sn R p)) (sNg A) (sLst A)))
  else -1
section
variable {h h0 : Hp} {A B : Yd} {P : Pr} {Sn : Int → Int} {R : Int} {K : Int → Hp → Prop}
theorem s_Out_addFillings {m : Nat} (hm : m < 30) (hy : isY h 110 B) (ho : okY B) (hv : ∀ g : Nat, g < sNg B → 0 ≤ h 15 (6 * (m : Int) + g) ∧ h 15 (6 * (m : Int) + g) ≤ 100)
    (hK : ∀ h', (∀ g : Nat, g < sNg B → h' 15 (6 * (m : Int) + g) = h 15 (6 * (m : Int) + g) + (if sFill B g = true then 1 else 0)) → (∀ i k, ¬ (i = 15 ∧ 6 * (m : Int) ≤ k ∧ k < 6 * (m : Int) + 6) → h' i k = h i k) → K 0 h') : m_Outlook_addFillings [10, 6 * (m : Int)] h K := by
  have h6 := ho.1
  have hng : sNg B = (B 0 0).toNat := rfl
  unfold m_Outlook_addFillings
  simp -implicitDefEqProofs only [↓dn_den, ↓dn_loc, ↓dn_k, ↓dn_add, ↓dn_sub, ↓dn_mul, ↓dn_div, ↓dn_rem, ↓dn_bop, ↓dn_ladd, ↓dn_lsub, ↓dn_lmul, ↓dn_ldiv, ↓dn_lrem, ↓dn_land, ↓dn_l2i, ↓dn_neg, ↓dn_get, ↓dn_fix, ↓dn_ald, ↓dn_gld, ↓dn_yld, ↓dn_len, ↓dn_gln, ↓dn_cc, ↓dn_cb, ↓dn_and, ↓dn_or, ↓dn_not, ↓dn_cite, ↓dn_ec, ↓dn_ei, ↓dn_skip, ↓dn_seq, ↓dn_set, ↓dn_inc, ↓dn_putf, ↓dn_putz, ↓dn_ast, ↓dn_exp, ↓dn_if, ↓dn_ret, ↓dn_retz, ↓dn_retv, ↓dn_brk, ↓dn_cont, ↓dn_cs, ↓dn_sw, ↓dn_pop32, ↓dn_pop64, ↓dn_aop, ↓dn_call, ↓dn_max, ↓dn_min, ↓dn_acp, ↓dn_i2l, ↓dn_args0, ↓dn_args1, og_pad, og_ent, og_rlt, og_rle, og_rgt, og_rge, og_req, og_rne, og_padd, og_psub, og_pmul, List.getD_cons_zero, List.getD_cons_succ, List.set_cons_zero, List.set_cons_succ, List.length_cons, List.length_nil, List.cons_append, List.nil_append, List.replicate, List.append_nil, Nat.reduceAdd, Nat.reduceSub, Nat.reduceEqDiff, if_true, if_false, reduceIte, Int.reduceAdd, Int.reduceSub, Int.reduceMul, Int.reduceNeg, Int.reduceLT, Int.reduceLE, Int.cast_ofNat_Int, true_or, or_true, true_and, and_true, false_and, List.mem_cons, List.not_mem_nil, or_false, false_or, ne_eq]
  refine og_loop (sNg B) (fun i e1 h1 => e1 = [10, 6 * (m : Int), (i : Int)] ∧ (∀ g : Nat, g < sNg B → h1 15 (6 * (m : Int) + g) = h 15 (6 * (m : Int) + g) + (if g < i ∧ sFill B g = true then 1 else 0)) ∧ (∀ i k, ¬ (i = 15 ∧ 6 * (m : Int) ≤ k ∧ k < 6 * (m : Int) + 6) → h1 i k = h i k)) ⟨rfl, fun g hg => by rw [if_neg (by omega)]; omega, fun _ _ _ => rfl⟩ ?_
  rintro i e1 h1 hi ⟨rfl, hc, hf⟩
  simp -implicitDefEqProofs only [↓dn_den, ↓dn_loc, ↓dn_k, ↓dn_add, ↓dn_sub, ↓dn_mul, ↓dn_div, ↓dn_rem, ↓dn_bop, ↓dn_ladd, ↓dn_lsub, ↓dn_lmul, ↓dn_ldiv, ↓dn_lrem, ↓dn_land, ↓dn_l2i, ↓dn_neg, ↓dn_get, ↓dn_fix, ↓dn_ald, ↓dn_gld, ↓dn_yld, ↓dn_len, ↓dn_gln, ↓dn_cc, ↓dn_cb, ↓dn_and, ↓dn_or, ↓dn_not, ↓dn_cite, ↓dn_ec, ↓dn_ei, ↓dn_skip, ↓dn_seq, ↓dn_set, ↓dn_inc, ↓dn_putf, ↓dn_putz, ↓dn_ast, ↓dn_exp, ↓dn_if, ↓dn_ret, ↓dn_retz, ↓dn_retv, ↓dn_brk, ↓dn_cont, ↓dn_cs, ↓dn_sw, ↓dn_pop32, ↓dn_pop64, ↓dn_aop, ↓dn_call, ↓dn_max, ↓dn_min, ↓dn_acp, ↓dn_i2l, ↓dn_args0, ↓dn_args1, og_pad, og_ent, og_rlt, og_rle, og_rgt, og_rge, og_req, og_rne, og_padd, og_psub, og_pmul, List.getD_cons_zero, List.getD_cons_succ, List.set_cons_zero, List.set_cons_succ, List.length_cons, List.length_nil, List.cons_append, List.nil_append, List.replicate, List.append_nil, Nat.reduceAdd, Nat.reduceSub, Nat.reduceEqDiff, if_true, if_false, reduceIte, Int.reduceAdd, Int.reduceSub, Int.reduceMul, Int.reduceNeg, Int.reduceLT, Int.reduceLE, Int.cast_ofNat_Int, true_or, or_true, true_and, and_true, false_and, List.mem_cons, List.not_mem_nil, or_false, false_or, ne_eq, og_i32]
  have hy1 : isY h1 110 B := isY_fr hy (fun i k a b => hf i k (by omega))
  rw [hy1.1.1]
  refine ⟨fun hlt => ?_, fun hge => ?_⟩
  · refine s_Yard_isFilled (by omega) (by omega) ?_
    have y4 := (hy1.2.1 i (by omega) hlt).2.2.2
    have ci := hc i (by omega)
    have vi := hv i (by omega)
    rw [if_neg (by omega)] at ci
    refine ⟨fun hx => ?_, fun hx => ?_⟩
    · have hx := iteP1 hx
      rw [y4] at hx
      have ef : sFill B i = true := by unfold sFill; simpa using hx
      rw [ci]
      repeat (refine And.intro (by omega) ?_)
      refine og_nx_mk (by omega) ⟨by simp, fun g hg => ?_, fun j k hjk => ?_⟩
      · by_cases e : g = i
        · subst e; rw [og_up_eq, if_pos ⟨by omega, ef⟩]; omega
        · rw [og_up_k (by omega), hc g hg]
          congr 1
          by_cases q : g < i ∧ sFill B g = true
          · rw [if_pos q, if_pos ⟨by omega, q.2⟩]
          · rw [if_neg q, if_neg (fun z => q ⟨by omega, z.2⟩)]
      · by_cases e : j = 15
        · subst e; rw [og_up_k (by omega)]; exact hf _ _ hjk
        · rw [og_up_i e]; exact hf _ _ hjk
    · have hx := iteP0 hx
      rw [y4] at hx
      have ef : ¬ sFill B i = true := by unfold sFill; simpa using hx
      refine ⟨by omega, og_nx_mk (by omega) ⟨by simp, fun g hg => ?_, hf⟩⟩
      rw [hc g hg]
      congr 1
      by_cases q : g < i ∧ sFill B g = true
      · rw [if_pos q, if_pos ⟨by omega, q.2⟩]
      · rw [if_neg q, if_neg (fun z => by
          by_cases e : g = i
          · subst e; exact ef z.2
          · exact q ⟨by omega, z.2⟩)]
  · have e : i = sNg B := by omega
    subst e
    refine hK h1 (fun g hg => ?_) hf
    rw [hc g hg]
    congr 1
    by_cases q : sFill B g = true
    · rw [if_pos ⟨hg, q⟩, if_pos q]
    · rw [if_neg (fun z => q z.2), if_neg q]
theorem s_Out_countFillings {sc p : Int} {b : Nat} (hR : hasR h sc (A 0 1) P) (hP : okP P) (hs : 19 < sc) (hs2 : sc + 3 < 100) (hy : isY h 100 A) (ho : okY A) (hm0 : A 0 2 ≤ 999) (hp : 0 ≤ p ∧ p < A 0 1) (hb : b < 1024)
    (hK : ∀ h', frS h h' → (∀ m g : Nat, m < sLst A → g < sNg A → h' 15 (6 * (m : Int) + g) = sCnt (tFw P A p b m g) 10) → K 0 h') : m_Outlook_countFillings [10, sc, 100, p, (b : Int)] h K := by
  have h6 := ho.1
  have hng : sNg A = (A 0 0).toNat := rfl
  have hl : sLst A = (min 30 (999 - A 0 2)).toNat := rfl
  unfold m_Outlook_countFillings
  simp -implicitDefEqProofs only [↓dn_den, ↓dn_loc, ↓dn_k, ↓dn_add, ↓dn_sub, ↓dn_mul, ↓dn_div, ↓dn_rem, ↓dn_bop, ↓dn_ladd, ↓dn_lsub, ↓dn_lmul, ↓dn_ldiv, ↓dn_lrem, ↓dn_land, ↓dn_l2i, ↓dn_neg, ↓dn_get, ↓dn_fix, ↓dn_ald, ↓dn_gld, ↓dn_yld, ↓dn_len, ↓dn_gln, ↓dn_cc, ↓dn_cb, ↓dn_and, ↓dn_or, ↓dn_not, ↓dn_cite, ↓dn_ec, ↓dn_ei, ↓dn_skip, ↓dn_seq, ↓dn_set, ↓dn_inc, ↓dn_putf, ↓dn_putz, ↓dn_ast, ↓dn_exp, ↓dn_if, ↓dn_ret, ↓dn_retz, ↓dn_retv, ↓dn_brk, ↓dn_cont, ↓dn_cs, ↓dn_sw, ↓dn_pop32, ↓dn_pop64, ↓dn_aop, ↓dn_call, ↓dn_max, ↓dn_min, ↓dn_acp, ↓dn_i2l, ↓dn_args0, ↓dn_args1, og_pad, og_ent, og_rlt, og_rle, og_rgt, og_rge, og_req, og_rne, og_padd, og_psub, og_pmul, List.getD_cons_zero, List.getD_cons_succ, List.set_cons_zero, List.set_cons_succ, List.length_cons, List.length_nil, List.cons_append, List.nil_append, List.replicate, List.append_nil, Nat.reduceAdd, Nat.reduceSub, Nat.reduceEqDiff, if_true, if_false, reduceIte, Int.reduceAdd, Int.reduceSub, Int.reduceMul, Int.reduceNeg, Int.reduceLT, Int.reduceLE, Int.cast_ofNat_Int, true_or, or_true, true_and, and_true, false_and, List.mem_cons, List.not_mem_nil, or_false, false_or, ne_eq]
  refine ⟨fun e1 h1 => (∃ c5, e1 = [10, sc, 100, p, (b : Int), c5, 0, 0]) ∧ frS h h1 ∧ ∀ k : Int, 0 ≤ k → k < 180 → h1 15 k = 0, ?_, ?_⟩
  · simp -implicitDefEqProofs only [↓dn_den, ↓dn_loc, ↓dn_k, ↓dn_add, ↓dn_sub, ↓dn_mul, ↓dn_div, ↓dn_rem, ↓dn_bop, ↓dn_ladd, ↓dn_lsub, ↓dn_lmul, ↓dn_ldiv, ↓dn_lrem, ↓dn_land, ↓dn_l2i, ↓dn_neg, ↓dn_get, ↓dn_fix, ↓dn_ald, ↓dn_gld, ↓dn_yld, ↓dn_len, ↓dn_gln, ↓dn_cc, ↓dn_cb, ↓dn_and, ↓dn_or, ↓dn_not, ↓dn_cite, ↓dn_ec, ↓dn_ei, ↓dn_skip, ↓dn_seq, ↓dn_set, ↓dn_inc, ↓dn_putf, ↓dn_putz, ↓dn_ast, ↓dn_exp, ↓dn_if, ↓dn_ret, ↓dn_retz, ↓dn_retv, ↓dn_brk, ↓dn_cont, ↓dn_cs, ↓dn_sw, ↓dn_pop32, ↓dn_pop64, ↓dn_aop, ↓dn_call, ↓dn_max, ↓dn_min, ↓dn_acp, ↓dn_i2l, ↓dn_args0, ↓dn_args1, og_pad, og_ent, og_rlt, og_rle, og_rgt, og_rge, og_req, og_rne, og_padd, og_psub, og_pmul, List.getD_cons_zero, List.getD_cons_succ, List.set_cons_zero, List.set_cons_succ, List.length_cons, List.length_nil, List.cons_append, List.nil_append, List.replicate, List.append_nil, Nat.reduceAdd, Nat.reduceSub, Nat.reduceEqDiff, if_true, if_false, reduceIte, Int.reduceAdd, Int.reduceSub, Int.reduceMul, Int.reduceNeg, Int.reduceLT, Int.reduceLE, Int.cast_ofNat_Int, true_or, or_true, true_and, and_true, false_and, List.mem_cons, List.not_mem_nil, or_false, false_or, ne_eq]
    refine og_loop 180 (fun i e1 h1 => e1 = [10, sc, 100, p, (b : Int), (i : Int), 0, 0] ∧ frS h h1 ∧ ∀ k : Int, 0 ≤ k → k < i → h1 15 k = 0) ⟨rfl, frS_rf, fun k a b => by omega⟩ ?_
    rintro i e1 h1 hi ⟨rfl, hS, hz⟩
    simp -implicitDefEqProofs only [↓dn_den, ↓dn_loc, ↓dn_k, ↓dn_add, ↓dn_sub, ↓dn_mul, ↓dn_div, ↓dn_rem, ↓dn_bop, ↓dn_ladd, ↓dn_lsub, ↓dn_lmul, ↓dn_ldiv, ↓dn_lrem, ↓dn_land, ↓dn_l2i, ↓dn_neg, ↓dn_get, ↓dn_fix, ↓dn_ald, ↓dn_gld, ↓dn_yld, ↓dn_len, ↓dn_gln, ↓dn_cc, ↓dn_cb, ↓dn_and, ↓dn_or, ↓dn_not, ↓dn_cite, ↓dn_ec, ↓dn_ei, ↓dn_skip, ↓dn_seq, ↓dn_set, ↓dn_inc, ↓dn_putf, ↓dn_putz, ↓dn_ast, ↓dn_exp, ↓dn_if, ↓dn_ret, ↓dn_retz, ↓dn_retv, ↓dn_brk, ↓dn_cont, ↓dn_cs, ↓dn_sw, ↓dn_pop32, ↓dn_pop64, ↓dn_aop, ↓dn_call, ↓dn_max, ↓dn_min, ↓dn_acp, ↓dn_i2l, ↓dn_args0, ↓dn_args1, og_pad, og_ent, og_rlt, og_rle, og_rgt, og_rge, og_req, og_rne, og_padd, og_psub, og_pmul, List.getD_cons_zero, List.getD_cons_succ, List.set_cons_zero, List.set_cons_succ, List.length_cons, List.length_nil, List.cons_append, List.nil_append, List.replicate, List.append_nil, Nat.reduceAdd, Nat.reduceSub, Nat.reduceEqDiff, if_true, if_false, reduceIte, Int.reduceAdd, Int.reduceSub, Int.reduceMul, Int.reduceNeg, Int.reduceLT, Int.reduceLE, Int.cast_ofNat_Int, true_or, or_true, true_and, and_true, false_and, List.mem_cons, List.not_mem_nil, or_false, false_or, ne_eq, og_i32]
    refine ⟨fun hlt => ?_, fun hge => ?_⟩
    · repeat (refine And.intro (by omega) ?_)
      refine og_nx_mk (by omega) ⟨by simp, fun j k hj => by rw [og_up_i (by omega)]; exact hS j k hj, fun k a b => ?_⟩
      by_cases e : k = i
      · subst e; rw [og_up_eq]
      · rw [og_up_k e]; exact hz k a (by omega)
    · have e : i = 180 := by omega
      subst e
      exact ⟨⟨_, rfl⟩, hS, hz⟩
  · rintro e1 h1 ⟨⟨c5, rfl⟩, hS, hz⟩
    simp -implicitDefEqProofs only [↓dn_den, ↓dn_loc, ↓dn_k, ↓dn_add, ↓dn_sub, ↓dn_mul, ↓dn_div, ↓dn_rem, ↓dn_bop, ↓dn_ladd, ↓dn_lsub, ↓dn_lmul, ↓dn_ldiv, ↓dn_lrem, ↓dn_land, ↓dn_l2i, ↓dn_neg, ↓dn_get, ↓dn_fix, ↓dn_ald, ↓dn_gld, ↓dn_yld, ↓dn_len, ↓dn_gln, ↓dn_cc, ↓dn_cb, ↓dn_and, ↓dn_or, ↓dn_not, ↓dn_cite, ↓dn_ec, ↓dn_ei, ↓dn_skip, ↓dn_seq, ↓dn_set, ↓dn_inc, ↓dn_putf, ↓dn_putz, ↓dn_ast, ↓dn_exp, ↓dn_if, ↓dn_ret, ↓dn_retz, ↓dn_retv, ↓dn_brk, ↓dn_cont, ↓dn_cs, ↓dn_sw, ↓dn_pop32, ↓dn_pop64, ↓dn_aop, ↓dn_call, ↓dn_max, ↓dn_min, ↓dn_acp, ↓dn_i2l, ↓dn_args0, ↓dn_args1, og_pad, og_ent, og_rlt, og_rle, og_rgt, og_rge, og_req, og_rne, og_padd, og_psub, og_pmul, List.getD_cons_zero, List.getD_cons_succ, List.set_cons_zero, List.set_cons_succ, List.length_cons, List.length_nil, List.cons_append, List.nil_append, List.replicate, List.append_nil, Nat.reduceAdd, Nat.reduceSub, Nat.reduceEqDiff, if_true, if_false, reduceIte, Int.reduceAdd, Int.reduceSub, Int.reduceMul, Int.reduceNeg, Int.reduceLT, Int.reduceLE, Int.cast_ofNat_Int, true_or, or_true, true_and, and_true, false_and, List.mem_cons, List.not_mem_nil, or_false, false_or, ne_eq, og_i32]
    rw [hS 100 2 (by decide), hy.1.2.2.1]
    have el : min 30 (999 - A 0 2) = (sLst A : Int) := by omega
    rw [el]
    refine ⟨by omega, ?_⟩
    refine og_loop 10 (fun i e2 h2 => (∃ c7, e2 = [10, sc, 100, p, (b : Int), (sLst A : Int), (i : Int), c7]) ∧ frS h h2 ∧ ∀ m g : Nat, m < sLst A → g < sNg A → h2 15 (6 * (m : Int) + g) = sCnt (tFw P A p b m g) i) ⟨⟨0, rfl⟩, hS, fun m g hm hg => hz _ (by omega) (by omega)⟩ ?_
    rintro i e2 h2 hi ⟨⟨c7, rfl⟩, hS2, hc2⟩
    simp -implicitDefEqProofs only [↓dn_den, ↓dn_loc, ↓dn_k, ↓dn_add, ↓dn_sub, ↓dn_mul, ↓dn_div, ↓dn_rem, ↓dn_bop, ↓dn_ladd, ↓dn_lsub, ↓dn_lmul, ↓dn_ldiv, ↓dn_lrem, ↓dn_land, ↓dn_l2i, ↓dn_neg, ↓dn_get, ↓dn_fix, ↓dn_ald, ↓dn_gld, ↓dn_yld, ↓dn_len, ↓dn_gln, ↓dn_cc, ↓dn_cb, ↓dn_and, ↓dn_or, ↓dn_not, ↓dn_cite, ↓dn_ec, ↓dn_ei, ↓dn_skip, ↓dn_seq, ↓dn_set, ↓dn_inc, ↓dn_putf, ↓dn_putz, ↓dn_ast, ↓dn_exp, ↓dn_if, ↓dn_ret, ↓dn_retz, ↓dn_retv, ↓dn_brk, ↓dn_cont, ↓dn_cs, ↓dn_sw, ↓dn_pop32, ↓dn_pop64, ↓dn_aop, ↓dn_call, ↓dn_max, ↓dn_min, ↓dn_acp, ↓dn_i2l, ↓dn_args0, ↓dn_args1, og_pad, og_ent, og_rlt, og_rle, og_rgt, og_rge, og_req, og_rne, og_padd, og_psub, og_pmul, List.getD_cons_zero, List.getD_cons_succ, List.set_cons_zero, List.set_cons_succ, List.length_cons, List.length_nil, List.cons_append, List.nil_append, List.replicate, List.append_nil, Nat.reduceAdd, Nat.reduceSub, Nat.reduceEqDiff, if_true, if_false, reduceIte, Int.reduceAdd, Int.reduceSub, Int.reduceMul, Int.reduceNeg, Int.reduceLT, Int.reduceLE, Int.cast_ofNat_Int, true_or, or_true, true_and, and_true, false_and, List.mem_cons, List.not_mem_nil, or_false, false_or, ne_eq, og_i32]
    refine ⟨fun hle => ?_, fun hgt => ?_⟩
    · rw [bt_and b hb i (by omega)]
      by_cases hbt : b.testBit i = true
      · rw [if_pos hbt]
        refine ⟨fun _ => ?_, fun z => absurd (by trivial) z⟩
        have hy2 : isY h2 100 A := isY_fr hy (fun i k a b => hS2 i k (by omega))
        refine s_Yard_become (by omega) hy2 ho (fun h3 hy3 hf3 => ?_)
        repeat (refine And.intro (by omega) ?_)
        generalize hA' : sUp A 7 p (i : Int) = A'
        have hoA' : okY A' := by rw [← hA']; exact okY_up7 ho (by omega)
        have e02 : A' 0 2 = A 0 2 := by rw [← hA']; rfl
        have e00 : A' 0 0 = A 0 0 := by rw [← hA']; rfl
        have hyA : isY (og_up h3 117 p (i : Int)) 110 A' := by
          have := isY_up (h := h3) (y := 110) (c := 7) (k := p) (v := (i : Int)) (by decide) hy3
          simp only [Int.reduceAdd] at this
          rw [hA'] at this
          exact this
        have hSA : frS h (og_up h3 117 p (i : Int)) := fun j k hj => by rw [og_up_i (by omega), hf3 j k (by omega) (by omega) (by omega)]; exact hS2 j k hj
        refine og_loop (sLst A) (fun q e4 h4 => e4 = [10, sc, 100, p, (b : Int), (sLst A : Int), (i : Int), (q : Int)] ∧ isY h4 110 (sIt P A' q) ∧ frS h h4 ∧ ∀ m g : Nat, m < sLst A → g < sNg A → h4 15 (6 * (m : Int) + g) = sCnt (tFw P A p b m g) i + (if m < q ∧ sFill (sIt P A' (m + 1)) g = true then 1 else 0)) ⟨rfl, hyA, hSA, fun m g hm hg => ?_⟩ ?_
        · rw [if_neg (by omega), og_up_i (by decide), hf3 _ _ (by decide) (by decide) (by decide), hc2 m g hm hg]; omega
        rintro q e4 h4 hq ⟨rfl, hy4, hS4, hc4⟩
        simp -implicitDefEqProofs only [↓dn_den, ↓dn_loc, ↓dn_k, ↓dn_add, ↓dn_sub, ↓dn_mul, ↓dn_div, ↓dn_rem, ↓dn_bop, ↓dn_ladd, ↓dn_lsub, ↓dn_lmul, ↓dn_ldiv, ↓dn_lrem, ↓dn_land, ↓dn_l2i, ↓dn_neg, ↓dn_get, ↓dn_fix, ↓dn_ald, ↓dn_gld, ↓dn_yld, ↓dn_len, ↓dn_gln, ↓dn_cc, ↓dn_cb, ↓dn_and, ↓dn_or, ↓dn_not, ↓dn_cite, ↓dn_ec, ↓dn_ei, ↓dn_skip, ↓dn_seq, ↓dn_set, ↓dn_inc, ↓dn_putf, ↓dn_putz, ↓dn_ast, ↓dn_exp, ↓dn_if, ↓dn_ret, ↓dn_retz, ↓dn_retv, ↓dn_brk, ↓dn_cont, ↓dn_cs, ↓dn_sw, ↓dn_pop32, ↓dn_pop64, ↓dn_aop, ↓dn_call, ↓dn_max, ↓dn_min, ↓dn_acp, ↓dn_i2l, ↓dn_args0, ↓dn_args1, og_pad, og_ent, og_rlt, og_rle, og_rgt, og_rge, og_req, og_rne, og_padd, og_psub, og_pmul, List.getD_cons_zero, List.getD_cons_succ, List.set_cons_zero, List.set_cons_succ, List.length_cons, List.length_nil, List.cons_append, List.nil_append, List.replicate, List.append_nil, Nat.reduceAdd, Nat.reduceSub, Nat.reduceEqDiff, if_true, if_false, reduceIte, Int.reduceAdd, Int.reduceSub, Int.reduceMul, Int.reduceNeg, Int.reduceLT, Int.reduceLE, Int.cast_ofNat_Int, true_or, or_true, true_and, and_true, false_and, List.mem_cons, List.not_mem_nil, or_false, false_or, ne_eq, og_i32]
        have s0 := sIt_0 (P := P) (A := A') q
        refine ⟨fun hlt => ?_, fun hge => ?_⟩
        · refine s_Alm_pass (hasR_N (hasR_S hR hS4 (by omega) hs2 (by omega)) (s0.2.1.trans (by rw [← hA']; rfl))) hP (by omega) (by omega) hy4 (okY_it hoA' q (by omega)) (by omega) (fun h5 hy5 hf5 => ?_)
          rw [← sIt_s] at hy5
          have s1 := sIt_0 (P := P) (A := A') (q + 1)
          have ngq : sNg (sIt P A' (q + 1)) = sNg A := by unfold sNg; rw [s1.1, e00]
          have h15 : ∀ k, h5 15 k = h4 15 k := fun k => hf5 _ _ (by decide) (by decide) (by decide)
          refine ⟨by omega, s_Out_addFillings (m := q) (by omega) hy5 (okY_it hoA' (q + 1) (by omega)) (fun g hg => ?_) (fun h6' hc6 hf6 => ?_)⟩
          · rw [ngq] at hg
            have := sCnt_le (tFw P A p b q g) i
            rw [h15, hc4 q g (by omega) hg]
            split <;> omega
          · refine ⟨by omega, og_nx_mk (by omega) ⟨by simp, isY_fr hy5 (fun j k a b => hf6 j k (by omega)), fun j k hj => ?_, fun m g hm hg => ?_⟩⟩
            · rw [hf6 j k (by omega), hf5 j k (by omega) (by omega) (by omega)]; exact hS4 j k hj
            · by_cases e : m = q
              · subst e
                rw [hc6 g (by rw [ngq]; exact hg), h15, hc4 m g hm hg, if_neg (by omega)]
                by_cases ff : sFill (sIt P A' (m + 1)) g = true
                · rw [if_pos ff, if_pos ⟨by omega, ff⟩]; omega
                · rw [if_neg ff, if_neg (fun z => ff z.2)]; omega
              · rw [hf6 _ _ (by omega), h15, hc4 m g hm hg]
                congr 1
                by_cases z : m < q ∧ sFill (sIt P A' (m + 1)) g = true
                · rw [if_pos z, if_pos ⟨by omega, z.2⟩]
                · rw [if_neg z, if_neg (fun y => z ⟨by omega, y.2⟩)]
        · have e : q = sLst A := by omega
          subst e
          refine ⟨by omega, og_nx_mk (by omega) ⟨⟨(sLst A : Int), by simp⟩, hS4, fun m g hm hg => ?_⟩⟩
          rw [hc4 m g hm hg, sCnt_s]
          congr 1
          unfold tFw
          rw [Int.toNat_natCast, hbt, Bool.true_and, hA']
          by_cases ff : sFill (sIt P A' (m + 1)) g = true
          · rw [if_pos ⟨hm, ff⟩, if_pos ff]
          · rw [if_neg (fun z => ff z.2), if_neg ff]
      · rw [if_neg hbt]
        refine ⟨fun z => absurd z (by decide), fun _ => ⟨by omega, og_nx_mk (by omega) ⟨⟨c7, by simp⟩, hS2, fun m g hm hg => ?_⟩⟩⟩
        rw [hc2 m g hm hg, sCnt_s]
        unfold tFw
        rw [Int.toNat_natCast]
        simp [hbt]
    · have e : i = 10 := by omega
      subst e
      exact hK h2 hS2 hc2
theorem s_Out_mostLeft {c n : Int} (hc : 0 ≤ c ∧ c < 180) (hn : 0 ≤ n ∧ n ≤ 10) (hv : 0 ≤ h 15 c ∧ h 15 c ≤ 10) (hK : K (max (h 15 c) (n - h 15 c)) h) : m_Outlook_mostLeft [10, c, n] h K := by
  unfold m_Outlook_mostLeft
  simp -implicitDefEqProofs only [↓dn_den, ↓dn_loc, ↓dn_k, ↓dn_add, ↓dn_sub, ↓dn_mul, ↓dn_div, ↓dn_rem, ↓dn_bop, ↓dn_ladd, ↓dn_lsub, ↓dn_lmul, ↓dn_ldiv, ↓dn_lrem, ↓dn_land, ↓dn_l2i, ↓dn_neg, ↓dn_get, ↓dn_fix, ↓dn_ald, ↓dn_gld, ↓dn_yld, ↓dn_len, ↓dn_gln, ↓dn_cc, ↓dn_cb, ↓dn_and, ↓dn_or, ↓dn_not, ↓dn_cite, ↓dn_ec, ↓dn_ei, ↓dn_skip, ↓dn_seq, ↓dn_set, ↓dn_inc, ↓dn_putf, ↓dn_putz, ↓dn_ast, ↓dn_exp, ↓dn_if, ↓dn_ret, ↓dn_retz, ↓dn_retv, ↓dn_brk, ↓dn_cont, ↓dn_cs, ↓dn_sw, ↓dn_pop32, ↓dn_pop64, ↓dn_aop, ↓dn_call, ↓dn_max, ↓dn_min, ↓dn_acp, ↓dn_i2l, ↓dn_args0, ↓dn_args1, og_pad, og_ent, og_rlt, og_rle, og_rgt, og_rge, og_req, og_rne, og_padd, og_psub, og_pmul, List.getD_cons_zero, List.getD_cons_succ, List.set_cons_zero, List.set_cons_succ, List.length_cons, List.length_nil, List.cons_append, List.nil_append, List.replicate, List.append_nil, Nat.reduceAdd, Nat.reduceSub, Nat.reduceEqDiff, if_true, if_false, reduceIte, Int.reduceAdd, Int.reduceSub, Int.reduceMul, Int.reduceNeg, Int.reduceLT, Int.reduceLE, Int.cast_ofNat_Int, true_or, or_true, true_and, and_true, false_and, List.mem_cons, List.not_mem_nil, or_false, false_or, ne_eq, og_i32]
  repeat (refine And.intro (by omega) ?_)
  exact hK
theorem s_Out_tellingCell {n : Int} {f : Nat → Nat → Int} (hy : isY h 100 A) (ho : okY A) (hm0 : A 0 2 < 999) (hg0 : A 0 0 ≠ 0) (hn : 0 ≤ n ∧ n ≤ 10) (hf : ∀ m g : Nat, m < sLst A → g < sNg A → h 15 (6 * (m : Int) + g) = f m g ∧ 0 ≤ f m g ∧ f m g ≤ 10)
    (hK : K (tAll (tV f n) (sNg A) (sLst A) : Int) h) : m_Outlook_tellingCell [10, 100, n] h K := by
  have h6 := ho.1
  have hng : sNg A = (A 0 0).toNat := rfl
  have hl : sLst A = (min 30 (999 - A 0 2)).toNat := rfl
  have cell : ∀ c : Nat, c / 6 < sLst A ∧ c % 6 < sNg A → h 15 (c : Int) = f (c / 6) (c % 6) ∧ 0 ≤ f (c / 6) (c % 6) ∧ f (c / 6) (c % 6) ≤ 10 := by
    intro c hc
    have := hf (c / 6) (c % 6) hc.1 hc.2
    have e : 6 * ((c / 6 : Nat) : Int) + ((c % 6 : Nat) : Int) = c := by omega
    rw [e] at this
    exact this
  have ml : ∀ (c : Nat) {K : Int → Hp → Prop}, c / 6 < sLst A ∧ c % 6 < sNg A → K (tV f n c) h → m_Outlook_mostLeft [10, (c : Int), n] h K := by
    intro c K hc hK
    have v := cell c hc
    refine s_Out_mostLeft (by omega) hn (by omega) ?_
    unfold tV at hK
    rw [v.1]
    exact hK
  unfold m_Outlook_tellingCell
  simp -implicitDefEqProofs only [↓dn_den, ↓dn_loc, ↓dn_k, ↓dn_add, ↓dn_sub, ↓dn_mul, ↓dn_div, ↓dn_rem, ↓dn_bop, ↓dn_ladd, ↓dn_lsub, ↓dn_lmul, ↓dn_ldiv, ↓dn_lrem, ↓dn_land, ↓dn_l2i, ↓dn_neg, ↓dn_get, ↓dn_fix, ↓dn_ald, ↓dn_gld, ↓dn_yld, ↓dn_len, ↓dn_gln, ↓dn_cc, ↓dn_cb, ↓dn_and, ↓dn_or, ↓dn_not, ↓dn_cite, ↓dn_ec, ↓dn_ei, ↓dn_skip, ↓dn_seq, ↓dn_set, ↓dn_inc, ↓dn_putf, ↓dn_putz, ↓dn_ast, ↓dn_exp, ↓dn_if, ↓dn_ret, ↓dn_retz, ↓dn_retv, ↓dn_brk, ↓dn_cont, ↓dn_cs, ↓dn_sw, ↓dn_pop32, ↓dn_pop64, ↓dn_aop, ↓dn_call, ↓dn_max, ↓dn_min, ↓dn_acp, ↓dn_i2l, ↓dn_args0, ↓dn_args1, og_pad, og_ent, og_rlt, og_rle, og_rgt, og_rge, og_req, og_rne, og_padd, og_psub, og_pmul, List.getD_cons_zero, List.getD_cons_succ, List.set_cons_zero, List.set_cons_succ, List.length_cons, List.length_nil, List.cons_append, List.nil_append, List.replicate, List.append_nil, Nat.reduceAdd, Nat.reduceSub, Nat.reduceEqDiff, if_true, if_false, reduceIte, Int.reduceAdd, Int.reduceSub, Int.reduceMul, Int.reduceNeg, Int.reduceLT, Int.reduceLE, Int.cast_ofNat_Int, true_or, or_true, true_and, and_true, false_and, List.mem_cons, List.not_mem_nil, or_false, false_or, ne_eq, og_i32]
  rw [hy.1.2.2.1]
  have el : min 30 (999 - A 0 2) = (sLst A : Int) := by omega
  rw [el]
  refine ⟨by omega, ?_⟩
  refine ⟨fun e1 h1 => h1 = h ∧ ∃ c5 c6, e1 = [10, 100, n, (sLst A : Int), (tAll (tV f n) (sNg A) (sLst A) : Int), c5, c6], ?_, ?_⟩
  · simp -implicitDefEqProofs only [↓dn_den, ↓dn_loc, ↓dn_k, ↓dn_add, ↓dn_sub, ↓dn_mul, ↓dn_div, ↓dn_rem, ↓dn_bop, ↓dn_ladd, ↓dn_lsub, ↓dn_lmul, ↓dn_ldiv, ↓dn_lrem, ↓dn_land, ↓dn_l2i, ↓dn_neg, ↓dn_get, ↓dn_fix, ↓dn_ald, ↓dn_gld, ↓dn_yld, ↓dn_len, ↓dn_gln, ↓dn_cc, ↓dn_cb, ↓dn_and, ↓dn_or, ↓dn_not, ↓dn_cite, ↓dn_ec, ↓dn_ei, ↓dn_skip, ↓dn_seq, ↓dn_set, ↓dn_inc, ↓dn_putf, ↓dn_putz, ↓dn_ast, ↓dn_exp, ↓dn_if, ↓dn_ret, ↓dn_retz, ↓dn_retv, ↓dn_brk, ↓dn_cont, ↓dn_cs, ↓dn_sw, ↓dn_pop32, ↓dn_pop64, ↓dn_aop, ↓dn_call, ↓dn_max, ↓dn_min, ↓dn_acp, ↓dn_i2l, ↓dn_args0, ↓dn_args1, og_pad, og_ent, og_rlt, og_rle, og_rgt, og_rge, og_req, og_rne, og_padd, og_psub, og_pmul, List.getD_cons_zero, List.getD_cons_succ, List.set_cons_zero, List.set_cons_succ, List.length_cons, List.length_nil, List.cons_append, List.nil_append, List.replicate, List.append_nil, Nat.reduceAdd, Nat.reduceSub, Nat.reduceEqDiff, if_true, if_false, reduceIte, Int.reduceAdd, Int.reduceSub, Int.reduceMul, Int.reduceNeg, Int.reduceLT, Int.reduceLE, Int.cast_ofNat_Int, true_or, or_true, true_and, and_true, false_and, List.mem_cons, List.not_mem_nil, or_false, false_or, ne_eq]
    refine og_loop (sLst A) (fun i e1 h1 => h1 = h ∧ ∃ c6, e1 = [10, 100, n, (sLst A : Int), (tAll (tV f n) (sNg A) i : Int), (i : Int), c6]) ⟨rfl, 0, rfl⟩ ?_
    rintro i e1 h1 hi ⟨rfl, c6, rfl⟩
    simp -implicitDefEqProofs only [↓dn_den, ↓dn_loc, ↓dn_k, ↓dn_add, ↓dn_sub, ↓dn_mul, ↓dn_div, ↓dn_rem, ↓dn_bop, ↓dn_ladd, ↓dn_lsub, ↓dn_lmul, ↓dn_ldiv, ↓dn_lrem, ↓dn_land, ↓dn_l2i, ↓dn_neg, ↓dn_get, ↓dn_fix, ↓dn_ald, ↓dn_gld, ↓dn_yld, ↓dn_len, ↓dn_gln, ↓dn_cc, ↓dn_cb, ↓dn_and, ↓dn_or, ↓dn_not, ↓dn_cite, ↓dn_ec, ↓dn_ei, ↓dn_skip, ↓dn_seq, ↓dn_set, ↓dn_inc, ↓dn_putf, ↓dn_putz, ↓dn_ast, ↓dn_exp, ↓dn_if, ↓dn_ret, ↓dn_retz, ↓dn_retv, ↓dn_brk, ↓dn_cont, ↓dn_cs, ↓dn_sw, ↓dn_pop32, ↓dn_pop64, ↓dn_aop, ↓dn_call, ↓dn_max, ↓dn_min, ↓dn_acp, ↓dn_i2l, ↓dn_args0, ↓dn_args1, og_pad, og_ent, og_rlt, og_rle, og_rgt, og_rge, og_req, og_rne, og_padd, og_psub, og_pmul, List.getD_cons_zero, List.getD_cons_succ, List.set_cons_zero, List.set_cons_succ, List.length_cons, List.length_nil, List.cons_append, List.nil_append, List.replicate, List.append_nil, Nat.reduceAdd, Nat.reduceSub, Nat.reduceEqDiff, if_true, if_false, reduceIte, Int.reduceAdd, Int.reduceSub, Int.reduceMul, Int.reduceNeg, Int.reduceLT, Int.reduceLE, Int.cast_ofNat_Int, true_or, or_true, true_and, and_true, false_and, List.mem_cons, List.not_mem_nil, or_false, false_or, ne_eq, og_i32]
    refine ⟨fun hlt => ?_, fun hge => ?_⟩
    · have oka := tAll_ok (V := tV f n) (G := sNg A) (L := sLst A) (by omega) (by omega) (by omega) i (by omega)
      refine og_loop (sNg A) (fun q e2 h2 => h2 = h1 ∧ e2 = [10, 100, n, (sLst A : Int), (tRow (tV f n) i (tAll (tV f n) (sNg A) i) q : Int), (i : Int), (q : Int)]) ⟨rfl, rfl⟩ ?_
      rintro q e2 h2 hq ⟨rfl, rfl⟩
      simp -implicitDefEqProofs only [↓dn_den, ↓dn_loc, ↓dn_k, ↓dn_add, ↓dn_sub, ↓dn_mul, ↓dn_div, ↓dn_rem, ↓dn_bop, ↓dn_ladd, ↓dn_lsub, ↓dn_lmul, ↓dn_ldiv, ↓dn_lrem, ↓dn_land, ↓dn_l2i, ↓dn_neg, ↓dn_get, ↓dn_fix, ↓dn_ald, ↓dn_gld, ↓dn_yld, ↓dn_len, ↓dn_gln, ↓dn_cc, ↓dn_cb, ↓dn_and, ↓dn_or, ↓dn_not, ↓dn_cite, ↓dn_ec, ↓dn_ei, ↓dn_skip, ↓dn_seq, ↓dn_set, ↓dn_inc, ↓dn_putf, ↓dn_putz, ↓dn_ast, ↓dn_exp, ↓dn_if, ↓dn_ret, ↓dn_retz, ↓dn_retv, ↓dn_brk, ↓dn_cont, ↓dn_cs, ↓dn_sw, ↓dn_pop32, ↓dn_pop64, ↓dn_aop, ↓dn_call, ↓dn_max, ↓dn_min, ↓dn_acp, ↓dn_i2l, ↓dn_args0, ↓dn_args1, og_pad, og_ent, og_rlt, og_rle, og_rgt, og_rge, og_req, og_rne, og_padd, og_psub, og_pmul, List.getD_cons_zero, List.getD_cons_succ, List.set_cons_zero, List.set_cons_succ, List.length_cons, List.length_nil, List.cons_append, List.nil_append, List.replicate, List.append_nil, Nat.reduceAdd, Nat.reduceSub, Nat.reduceEqDiff, if_true, if_false, reduceIte, Int.reduceAdd, Int.reduceSub, Int.reduceMul, Int.reduceNeg, Int.reduceLT, Int.reduceLE, Int.cast_ofNat_Int, true_or, or_true, true_and, and_true, false_and, List.mem_cons, List.not_mem_nil, or_false, false_or, ne_eq, og_i32]
      rw [hy.1.1]
      refine ⟨fun hlt2 => ?_, fun hge2 => ?_⟩
      · have okr := tRow_ok (V := tV f n) (G := sNg A) (L := sLst A) (m := i) (by omega) (by omega) oka q (by omega)
        have ec : 6 * (i : Int) + (q : Int) = ((6 * i + q : Nat) : Int) := by omega
        rw [ec]
        repeat (refine And.intro (by omega) ?_)
        refine ml (6 * i + q) (by omega) ?_
        refine ml _ okr ?_
        refine ⟨fun hl1 => ⟨by omega, by omega, by omega, og_nx_mk (by omega) ⟨rfl, by rw [tRow_s, if_pos hl1]; simp⟩⟩, fun hl1 => ⟨by omega, og_nx_mk (by omega) ⟨rfl, by rw [tRow_s, if_neg hl1]; simp⟩⟩⟩
      · have e : q = sNg A := by omega
        subst e
        exact ⟨by omega, og_nx_mk (by omega) ⟨rfl, (sNg A : Int), by rw [tAll_s]; simp⟩⟩
    · have e : i = sLst A := by omega
      subst e
      exact ⟨_, _, rfl⟩
  · rintro e1 h1 ⟨rfl, c5, c6, rfl⟩
    simp -implicitDefEqProofs only [↓dn_den, ↓dn_loc, ↓dn_k, ↓dn_add, ↓dn_sub, ↓dn_mul, ↓dn_div, ↓dn_rem, ↓dn_bop, ↓dn_ladd, ↓dn_lsub, ↓dn_lmul, ↓dn_ldiv, ↓dn_lrem, ↓dn_land, ↓dn_l2i, ↓dn_neg, ↓dn_get, ↓dn_fix, ↓dn_ald, ↓dn_gld, ↓dn_yld, ↓dn_len, ↓dn_gln, ↓dn_cc, ↓dn_cb, ↓dn_and, ↓dn_or, ↓dn_not, ↓dn_cite, ↓dn_ec, ↓dn_ei, ↓dn_skip, ↓dn_seq, ↓dn_set, ↓dn_inc, ↓dn_putf, ↓dn_putz, ↓dn_ast, ↓dn_exp, ↓dn_if, ↓dn_ret, ↓dn_retz, ↓dn_retv, ↓dn_brk, ↓dn_cont, ↓dn_cs, ↓dn_sw, ↓dn_pop32, ↓dn_pop64, ↓dn_aop, ↓dn_call, ↓dn_max, ↓dn_min, ↓dn_acp, ↓dn_i2l, ↓dn_args0, ↓dn_args1, og_pad, og_ent, og_rlt, og_rle, og_rgt, og_rge, og_req, og_rne, og_padd, og_psub, og_pmul, List.getD_cons_zero, List.getD_cons_succ, List.set_cons_zero, List.set_cons_succ, List.length_cons, List.length_nil, List.cons_append, List.nil_append, List.replicate, List.append_nil, Nat.reduceAdd, Nat.reduceSub, Nat.reduceEqDiff, if_true, if_false, reduceIte, Int.reduceAdd, Int.reduceSub, Int.reduceMul, Int.reduceNeg, Int.reduceLT, Int.reduceLE, Int.cast_ofNat_Int, true_or, or_true, true_and, and_true, false_and, List.mem_cons, List.not_mem_nil, or_false, false_or, ne_eq]
    exact hK
theorem c_tells {p w : Int} (hc : isC h A P) (hP : okP P) (ho : okY A) (hm0 : A 0 2 ≤ 999) (hS : isSn h Sn R) (hk : okS A Sn R) (hK : ∀ h', frS h h' → K (sTells P A Sn R p w) h') : m_OG_tells [0, p, w] h K := by
  have h6 := ho.1
  have hng : sNg A = (A 0 0).toNat := rfl
  have hll : sLst A = (min 30 (999 - A 0 2)).toNat := rfl
  have ht := hc.2.1
  unfold toldOK at ht
  unfold m_OG_tells
  simp -implicitDefEqProofs only [↓dn_den, ↓dn_loc, ↓dn_k, ↓dn_add, ↓dn_sub, ↓dn_mul, ↓dn_div, ↓dn_rem, ↓dn_bop, ↓dn_ladd, ↓dn_lsub, ↓dn_lmul, ↓dn_ldiv, ↓dn_lrem, ↓dn_land, ↓dn_l2i, ↓dn_neg, ↓dn_get, ↓dn_fix, ↓dn_ald, ↓dn_gld, ↓dn_yld, ↓dn_len, ↓dn_gln, ↓dn_cc, ↓dn_cb, ↓dn_and, ↓dn_or, ↓dn_not, ↓dn_cite, ↓dn_ec, ↓dn_ei, ↓dn_skip, ↓dn_seq, ↓dn_set, ↓dn_inc, ↓dn_putf, ↓dn_putz, ↓dn_ast, ↓dn_exp, ↓dn_if, ↓dn_ret, ↓dn_retz, ↓dn_retv, ↓dn_brk, ↓dn_cont, ↓dn_cs, ↓dn_sw, ↓dn_pop32, ↓dn_pop64, ↓dn_aop, ↓dn_call, ↓dn_max, ↓dn_min, ↓dn_acp, ↓dn_i2l, ↓dn_args0, ↓dn_args1, og_pad, og_ent, og_rlt, og_rle, og_rgt, og_rge, og_req, og_rne, og_padd, og_psub, og_pmul, List.getD_cons_zero, List.getD_cons_succ, List.set_cons_zero, List.set_cons_succ, List.length_cons, List.length_nil, List.cons_append, List.nil_append, List.replicate, List.append_nil, Nat.reduceAdd, Nat.reduceSub, Nat.reduceEqDiff, if_true, if_false, reduceIte, Int.reduceAdd, Int.reduceSub, Int.reduceMul, Int.reduceNeg, Int.reduceLT, Int.reduceLE, Int.cast_ofNat_Int, true_or, or_true, true_and, and_true, false_and, List.mem_cons, List.not_mem_nil, or_false, false_or, ne_eq, og_i32]
  unfold sTells at hK
  have em := hc.1.1.2.2.1
  have no : ¬ (((0 ≤ p ∧ p < A 0 1) ∧ sLive A p = true) ∧ (0 ≤ w ∧ w ≤ 2) ∧ A 0 0 ≠ 0 ∧ A 0 2 < 999 ∧ sWl P A Sn R p ≠ 0) → ∀ h', frS h h' → K (-1) h' := fun z h' hS => by rw [if_neg z] at hK; exact hK h' hS
  refine c_lives hc.1 ho ⟨fun a => ?_, fun a => no (fun z => iteP0 a z.1) h frS_rf⟩
  have hl := iteP1 a
  rw [hc.1.1.1, em]
  refine ⟨fun z => no (by omega) h frS_rf, fun n1 => ⟨fun z => no (by omega) h frS_rf, fun n2 => ⟨fun z => no (by omega) h frS_rf, fun n3 => ⟨fun z => no (by omega) h frS_rf, fun n4 => ?_⟩⟩⟩⟩
  refine s_Out_willsOf hc.2.2 hP (by omega) (by omega) hc.1 ho hm0 hS hk hl.1 (fun h1 hf1 => ?_)
  have hS1 := frS_Y hf1
  have hc1 := isC_S hc hS1
  refine ⟨fun z => no (by omega) h1 hS1, fun n5 => ?_⟩
  rw [if_pos ⟨hl, by omega, n3, by omega, by omega⟩] at hK
  have hb : sWl P A Sn R p < 1024 := sSet_le (f := fun w => sAgr P A Sn R p w) (n := 10) (m := 10) (by omega) (by omega)
  generalize sWl P A Sn R p = b at *
  have e015 : h1 0 15 = h 0 15 := hS1 _ _ (by decide)
  rw [e015]
  have hR1 := hc1.2.2
  rw [e015] at hR1
  refine s_Out_countFillings hR1 hP (by omega) (by omega) hc1.1 ho hm0 hl.1 hb (fun h2 hS2 hc2 => ?_)
  have hy2 := (isC_S hc1 hS2).1
  have hS12 := frS_tr hS1 hS2
  have bc := sCnt_le (fun k => b.testBit k.toNat) 10
  have hcell : ∀ m g : Nat, m < sLst A → g < sNg A → h2 15 (6 * (m : Int) + g) = sCnt (tFw P A p b m g) 10 ∧ 0 ≤ sCnt (tFw P A p b m g) 10 ∧ sCnt (tFw P A p b m g) 10 ≤ 10 := fun m g hm hg => ⟨hc2 m g hm hg, (sCnt_le _ 10).1, (sCnt_le _ 10).2⟩
  refine s_J_bitCount hb ?_
  refine s_Out_tellingCell (f := fun m g => sCnt (tFw P A p b m g) 10) hy2 ho (by omega) n3 ⟨bc.1, bc.2⟩ hcell ?_
  have oka := tAll_ok (V := sTv P A p b) (G := sNg A) (L := sLst A) (by omega) (by omega) (by omega) (sLst A) (Nat.le_refl _)
  have hK2 := hK h2 hS12
  have eV : tV (fun m g => sCnt (tFw P A p b m g) 10) (sBc b) = sTv P A p b := rfl
  rw [eV]
  generalize hcc : tAll (sTv P A p b) (sNg A) (sLst A) = c at *
  refine ⟨fun e => ?_, fun m1 => ⟨fun e => ?_, fun m2 => ?_⟩⟩
  · rw [if_pos e] at hK2
    have e6 : (c : Int).tdiv 6 + 1 = ((c / 6 + 1 : Nat) : Int) := by rw [Int.tdiv_eq_ediv_of_nonneg (by omega)]; omega
    have e6' : (c : Int).tdiv 6 = ((c / 6 : Nat) : Int) := by rw [Int.tdiv_eq_ediv_of_nonneg (by omega)]; omega
    rw [e6, e6']
    exact ⟨by decide, by omega, by omega, hK2⟩
  · rw [if_neg m1, if_pos e] at hK2
    have e6 : (c : Int).tmod 6 = ((c % 6 : Nat) : Int) := by rw [Int.tmod_eq_emod_of_nonneg (by omega)]; omega
    rw [e6]
    exact ⟨by decide, hK2⟩
  · rw [if_neg m1, if_neg m2] at hK2
    have hv := hcell (c / 6) (c % 6) oka.1 oka.2
    have e : 6 * ((c / 6 : Nat) : Int) + ((c % 6 : Nat) : Int) = c := by omega
    rw [e] at hv
    refine s_J_bitCount hb (s_Out_mostLeft (by omega) ⟨bc.1, bc.2⟩ (by omega) ?_)
    rw [hv.1]
    exact hK2
end
end
