section
-- questions: what is asked; the class
def gQ (B : Int → Int) (n : Int) : PS := if 25 ≤ wrd B n 0 then bnd (gR B n 13 (decide (wrd B n 0 ≤ 27)) (tE B n 0) []) (fun a c => if tS B n a < n then .inr (1, tS B n a) else .inl (wrd B n 0, c)) else .inr (1, tS B n 0)
def gQk (r : PS) : Int := match r with
  | .inl q => q.1
  | .inr _ => -1
def qSt (k ans v p : Int) : Int := if k = 25 then (if ans = -1 ∧ ¬ v = 0 then p else ans) else if k = 26 then (if ¬ v = 0 then p else ans) else if k = 29 then (if p = 0 then v else max ans v) else if k = 30 then (if p = 0 then v else min ans v) else ans + v
def qFo (k : Int) (prog : List Int) (A : Yd) : Nat → Int
  | 0 => if k = 25 ∨ k = 26 then -1 else 0
  | m + 1 => qSt k (qFo k prog A m) (sVal prog A (m : Int) 0) (m : Int)
theorem pe_ec {C : og_Cd} {env : List Int} {h : Hp} {P : Prop} {K : Int → Hp → Prop} (hC : pc C env P) (hK : ∀ x, ((x = 1 ∧ P) ∨ (x = 0 ∧ ¬ P)) → K x h) : og_ec C env h K := by
  rw [dn_ec]
  exact hC h _ _ (fun p => hK 1 (Or.inl ⟨rfl, p⟩)) (fun p => hK 0 (Or.inr ⟨rfl, p⟩))
theorem qFo_s {k : Int} {prog : List Int} {A : Yd} {m : Nat} : qFo k prog A (m + 1) = qSt k (qFo k prog A m) (sVal prog A (m : Int) 0) (m : Int) := rfl
theorem qFo_rg {k : Int} {prog : List Int} {A : Yd} {u : Bool} (ho : okY A) (hw : wtR prog [] = some [u]) : ∀ m : Nat, (m : Int) ≤ A 0 1 → -1000000 * (m : Int) - 1 ≤ qFo k prog A m ∧ qFo k prog A m ≤ 1000000 * (m : Int) + 8
  | 0, _ => by
    unfold qFo
    split <;> simp
  | m + 1, h => by
    have ih := qFo_rg ho hw (k := k) m (by omega)
    have v := (sVal_ty (A := A) (p := (m : Int)) (cnt := 0) ⟨ho, by omega, by omega⟩ (by decide) hw).1
    have h6 := ho.1
    rw [qFo_s]
    unfold qSt
    repeat' split
    all_goals omega
section
variable {q h h0 h' : Hp} {B : Int → Int} {n a p s : Int} {K : Int → Hp → Prop} {A : Yd} {P : Pr} {U : List Yd} {X : Yd} {c : List Int}
theorem gQ_in {k : Int} {c : List Int} (h : gQ B n = .inl (k, c)) : (25 ≤ k ∧ k ≤ 30) ∧ okp 13 c ∧ ∃ u, wtR c [] = some [u] ∧ (k ≤ 27 → u = true) := by
  unfold gQ at h
  by_cases w : 25 ≤ wrd B n 0
  · rw [if_pos w] at h
    have g := wrd_go (B := B) (n := n) (a := 0) (by omega)
    have wr := tW_rg B n 0
    rcases ty_gR (B := B) (n := n) (pu := 13) (decide (wrd B n 0 ≤ 27)) (tE B n 0) with ⟨a', p', u, e', o, w1, w2⟩ | ⟨z', e'⟩
    · rw [e' [], bnd_l] at h
      by_cases q : tS B n a' < n
      · rw [if_pos q] at h; cases h
      · rw [if_neg q] at h
        have e := Sum.inl.inj h
        rw [Prod.mk.injEq, List.nil_append] at e
        rw [← e.1, ← e.2]
        exact ⟨by omega, o, u, w1, fun z => w2 (decide_eq_true z)⟩
    · rw [e' []] at h; cases h
  · rw [if_neg w] at h; cases h
theorem w_readQuestion (hs : s = 32 ∨ s = 42) (ht : txC h B n) (hK : ∀ h', (∀ z, gQ B n = .inr z → h' 3 7 = z.1 ∧ h' 3 8 = z.2 ∧ z.1 ≠ 0) → (∀ k c, gQ B n = .inl (k, c) → (h' 3 7 = 0 ∧ h' 3 8 = -1) ∧ isR h' s 13 c) → (∀ i k, i ≠ 3 → i ≠ 5 → ¬ (s ≤ i ∧ i ≤ s + 3) → h' i k = h i k) → K (gQk (gQ B n)) h') : m_Grammar_readQuestion [5, s] h K := by
  have hn := ht.2.2
  unfold m_Grammar_readQuestion
  simp -implicitDefEqProofs only [↓dn_den, ↓dn_loc, ↓dn_k, ↓dn_add, ↓dn_sub, ↓dn_mul, ↓dn_div, ↓dn_rem, ↓dn_bop, ↓dn_ladd, ↓dn_lsub, ↓dn_lmul, ↓dn_ldiv, ↓dn_lrem, ↓dn_land, ↓dn_l2i, ↓dn_neg, ↓dn_get, ↓dn_fix, ↓dn_ald, ↓dn_gld, ↓dn_yld, ↓dn_len, ↓dn_gln, ↓dn_cc, ↓dn_cb, ↓dn_and, ↓dn_not, ↓dn_cite, ↓dn_skip, ↓dn_seq, ↓dn_set, ↓dn_inc, ↓dn_putf, ↓dn_putz, ↓dn_ast, ↓dn_exp, ↓dn_ret, ↓dn_retz, ↓dn_retv, ↓dn_brk, ↓dn_cont, ↓dn_cs, ↓dn_sw, ↓dn_pop32, ↓dn_pop64, ↓dn_aop, ↓dn_call, ↓dn_max, ↓dn_min, ↓dn_acp, ↓dn_i2l, ↓dn_args0, ↓dn_args1, og_pad, og_ent, og_rlt, og_rle, og_rgt, og_rge, og_req, og_rne, og_padd, og_psub, og_pmul, List.getD_cons_zero, List.getD_cons_succ, List.set_cons_zero, List.set_cons_succ, List.length_cons, List.length_nil, List.cons_append, List.nil_append, List.replicate, List.append_nil, Nat.reduceAdd, Nat.reduceSub, Nat.reduceEqDiff, if_true, if_false, reduceIte, Int.reduceAdd, Int.reduceSub, Int.reduceMul, Int.reduceNeg, Int.reduceLT, Int.reduceLE, Int.cast_ofNat_Int, true_or, or_true, true_and, and_true, false_and, List.mem_cons, List.not_mem_nil, or_false, false_or, ne_eq]
  refine w_clear hs (fun h1 z1 z2 f1 => k_begin (B := B) (n := n) (txC_fr ht (fun i k hi => f1 i k (by omega) (by omega) (by omega))) (fun h2 k2 f2 => ?_))
  have F2 : ∀ i k, i ≠ 3 → ¬ (s ≤ i ∧ i ≤ s + 3) → h2 i k = h i k := fun i k p1 p2 => by rw [f2 i k p1, f1 i k (by omega) (by omega) (by omega)]
  have ht2 : txC h2 B n := txC_fr ht (fun i k hi => F2 i k (by omega) (by omega))
  refine k_word ?_
  have ew : (if h2 3 2 = 1 then h2 3 5 else -1) = wrd B n 0 := by
    unfold wrd
    rw [k2.2.2.1.1]
    by_cases q : tK B n 0 = 1
    · rw [if_pos q, if_pos q, (k2.2.2.2.1 q).1]
    · rw [if_neg q, if_neg q]
  rw [ew]
  refine pc_if pc_cc (fun q => ?_) (fun q => ?_)
  · have q : wrd B n 0 < 25 := q
    have e : gQ B n = .inr (1, tS B n 0) := by unfold gQ; rw [if_neg (by omega)]
    simp -implicitDefEqProofs only [↓dn_den, ↓dn_loc, ↓dn_k, ↓dn_add, ↓dn_sub, ↓dn_mul, ↓dn_div, ↓dn_rem, ↓dn_bop, ↓dn_ladd, ↓dn_lsub, ↓dn_lmul, ↓dn_ldiv, ↓dn_lrem, ↓dn_land, ↓dn_l2i, ↓dn_neg, ↓dn_get, ↓dn_fix, ↓dn_ald, ↓dn_gld, ↓dn_yld, ↓dn_len, ↓dn_gln, ↓dn_cc, ↓dn_cb, ↓dn_and, ↓dn_or, ↓dn_not, ↓dn_cite, ↓dn_ec, ↓dn_ei, ↓dn_skip, ↓dn_seq, ↓dn_set, ↓dn_inc, ↓dn_putf, ↓dn_putz, ↓dn_ast, ↓dn_exp, ↓dn_if, ↓dn_ret, ↓dn_retz, ↓dn_retv, ↓dn_brk, ↓dn_cont, ↓dn_cs, ↓dn_sw, ↓dn_pop32, ↓dn_pop64, ↓dn_aop, ↓dn_call, ↓dn_max, ↓dn_min, ↓dn_acp, ↓dn_i2l, ↓dn_args0, ↓dn_args1, og_pad, og_ent, og_rlt, og_rle, og_rgt, og_rge, og_req, og_rne, og_padd, og_psub, og_pmul, List.getD_cons_zero, List.getD_cons_succ, List.set_cons_zero, List.set_cons_succ, List.length_cons, List.length_nil, List.cons_append, List.nil_append, List.replicate, List.append_nil, Nat.reduceAdd, Nat.reduceSub, Nat.reduceEqDiff, if_true, if_false, reduceIte, Int.reduceAdd, Int.reduceSub, Int.reduceMul, Int.reduceNeg, Int.reduceLT, Int.reduceLE, Int.cast_ofNat_Int, true_or, or_true, true_and, and_true, false_and, List.mem_cons, List.not_mem_nil, or_false, false_or, ne_eq]
    refine w_fail (by decide) k2 (fun h3 l3 f3 => ?_)
    have fin := hK h3 (fun z e' => by rw [e] at e'; have e' := Sum.inr.inj e'; subst e'; exact ⟨l3.1, l3.2.1, l3.2.2.1⟩) (fun k c e' => by rw [e] at e'; cases e') (fun i k p1 p2 p3 => by rw [f3 i k p1, F2 i k p1 p3])
    rw [e] at fin
    exact fin
  · have q : ¬ wrd B n 0 < 25 := q
    have g := wrd_go (B := B) (n := n) (a := 0) (by omega)
    have te := tE_le (B := B) (n := n) (a := 0) hn.1
    have wr := tW_rg B n 0
    simp -implicitDefEqProofs only [↓dn_den, ↓dn_loc, ↓dn_k, ↓dn_add, ↓dn_sub, ↓dn_mul, ↓dn_div, ↓dn_rem, ↓dn_bop, ↓dn_ladd, ↓dn_lsub, ↓dn_lmul, ↓dn_ldiv, ↓dn_lrem, ↓dn_land, ↓dn_l2i, ↓dn_neg, ↓dn_get, ↓dn_fix, ↓dn_ald, ↓dn_gld, ↓dn_yld, ↓dn_len, ↓dn_gln, ↓dn_cc, ↓dn_cb, ↓dn_and, ↓dn_not, ↓dn_cite, ↓dn_skip, ↓dn_seq, ↓dn_set, ↓dn_inc, ↓dn_putf, ↓dn_putz, ↓dn_ast, ↓dn_exp, ↓dn_ret, ↓dn_retz, ↓dn_retv, ↓dn_brk, ↓dn_cont, ↓dn_cs, ↓dn_sw, ↓dn_pop32, ↓dn_pop64, ↓dn_aop, ↓dn_call, ↓dn_max, ↓dn_min, ↓dn_acp, ↓dn_i2l, ↓dn_args0, ↓dn_args1, og_pad, og_ent, og_rlt, og_rle, og_rgt, og_rge, og_req, og_rne, og_padd, og_psub, og_pmul, List.getD_cons_zero, List.getD_cons_succ, List.set_cons_zero, List.set_cons_succ, List.length_cons, List.length_nil, List.cons_append, List.nil_append, List.replicate, List.append_nil, Nat.reduceAdd, Nat.reduceSub, Nat.reduceEqDiff, if_true, if_false, reduceIte, Int.reduceAdd, Int.reduceSub, Int.reduceMul, Int.reduceNeg, Int.reduceLT, Int.reduceLE, Int.cast_ofNat_Int, true_or, or_true, true_and, and_true, false_and, List.mem_cons, List.not_mem_nil, or_false, false_or, ne_eq]
    refine w_step ht2 k2 (fun h3 k3 f3 => ?_)
    have ht3 : txC h3 B n := txC_fr ht2 (fun i k hi => f3 i k (by omega))
    refine pe_ec (pc_or (pc_or pc_cc pc_cc) pc_cc) (fun x hx => ?_)
    simp only [List.getD_cons_zero, List.getD_cons_succ, og_req] at hx
    have sc3 : scr h3 s [] := ⟨by rw [f3 _ _ (by omega), f2 _ _ (by omega), z1]; rfl, fun j hj => absurd hj (by simp)⟩
    refine w_readRule (a := tE B n 0) (c := []) (t := decide (wrd B n 0 ≤ 27)) hs (by decide) (hx.imp (fun y => ⟨y.1, decide_eq_true (by omega)⟩) (fun y => ⟨y.1, decide_eq_false (by omega)⟩)) ht3 ⟨k3, sc3⟩ ⟨by show 0 ≤ tE B n 0; omega, te, by simp; omega⟩ (fun h4 k4 v4 f4 => ?_)
    have F4 : ∀ i k, i ≠ 3 → i ≠ 5 → ¬ (s ≤ i ∧ i ≤ s + 3) → h4 i k = h i k := fun i k p1 p2 p3 => by rw [f4 i k p1 p2 (by omega) (by omega) (by omega), f3 i k p1, F2 i k p1 p3]
    have eQ : gQ B n = bnd (gR B n 13 (decide (wrd B n 0 ≤ 27)) (tE B n 0) []) (fun a c => if tS B n a < n then .inr (1, tS B n a) else .inl (wrd B n 0, c)) := by unfold gQ; rw [if_pos (by omega)]
    refine ⟨fun e5 h5 => e5 = [5, s, wrd B n 0] ∧ ((∃ z, gQ B n = .inr z ∧ fltC h5 z.1 z.2) ∨ (∃ c, gQ B n = .inl (wrd B n 0, c) ∧ (h5 3 7 = 0 ∧ h5 3 8 = -1) ∧ isR h5 s 13 c)) ∧ (∀ i k, i ≠ 3 → i ≠ 5 → ¬ (s ≤ i ∧ i ≤ s + 3) → h5 i k = h i k), ?_, ?_⟩
    · rw [dn_if]
      simp -implicitDefEqProofs only [↓dn_den, ↓dn_loc, ↓dn_k, ↓dn_add, ↓dn_sub, ↓dn_mul, ↓dn_div, ↓dn_rem, ↓dn_bop, ↓dn_ladd, ↓dn_lsub, ↓dn_lmul, ↓dn_ldiv, ↓dn_lrem, ↓dn_land, ↓dn_l2i, ↓dn_neg, ↓dn_get, ↓dn_fix, ↓dn_ald, ↓dn_gld, ↓dn_yld, ↓dn_len, ↓dn_gln, ↓dn_cc, ↓dn_cb, ↓dn_and, ↓dn_or, ↓dn_not, ↓dn_cite, ↓dn_ec, ↓dn_ei, ↓dn_skip, ↓dn_seq, ↓dn_set, ↓dn_inc, ↓dn_putf, ↓dn_putz, ↓dn_ast, ↓dn_exp, ↓dn_if, ↓dn_ret, ↓dn_retz, ↓dn_retv, ↓dn_brk, ↓dn_cont, ↓dn_cs, ↓dn_sw, ↓dn_pop32, ↓dn_pop64, ↓dn_aop, ↓dn_call, ↓dn_max, ↓dn_min, ↓dn_acp, ↓dn_i2l, ↓dn_args0, ↓dn_args1, og_pad, og_ent, og_rlt, og_rle, og_rgt, og_rge, og_req, og_rne, og_padd, og_psub, og_pmul, List.getD_cons_zero, List.getD_cons_succ, List.set_cons_zero, List.set_cons_succ, List.length_cons, List.length_nil, List.cons_append, List.nil_append, List.replicate, List.append_nil, Nat.reduceAdd, Nat.reduceSub, Nat.reduceEqDiff, if_true, if_false, reduceIte, Int.reduceAdd, Int.reduceSub, Int.reduceMul, Int.reduceNeg, Int.reduceLT, Int.reduceLE, Int.cast_ofNat_Int, true_or, or_true, true_and, and_true, false_and, List.mem_cons, List.not_mem_nil, or_false, false_or, ne_eq]
      refine k_goesOn ?_
      cases e : gR B n 13 (decide (wrd B n 0 ≤ 27)) (tE B n 0) [] with
      | inr z =>
        rw [e] at k4 eQ
        rw [bnd_r] at eQ
        rw [if_neg (fun y => k4.1.2.2.1 (k4.1.1.symm.trans y.1))]
        refine ⟨fun y => absurd (by trivial) y, fun _ => ?_⟩
        first | exact ⟨rfl, Or.inl ⟨z, eQ, k4.1⟩, F4⟩ | exact ⟨Or.inl ⟨z, eQ, k4.1⟩, F4⟩
      | inl w =>
        obtain ⟨b, c⟩ := w
        have v4 := v4 b c e
        rw [e] at k4 eQ
        rw [bnd_l] at eQ
        have t4 : tokC h4 B n b := k4.1
        have ad := adv_gR (B := B) (n := n) (pu := 13) (decide (wrd B n 0 ≤ 27)) (tE B n 0) [] (by omega) te
        rw [e] at ad
        have ad2 : b ≤ n := ad.2.1
        have ad3 : (c.length : Int) + tE B n 0 ≤ (([] : List Int).length : Int) + b := ad.2.2
        simp only [List.length_nil] at ad3 v4
        rw [t4.2.1.1, t4.2.2.1.1]
        by_cases lt : tS B n b < n
        · rw [if_pos ⟨rfl, fun z => tK_0.mp z lt⟩]
          rw [if_pos lt] at eQ
          refine ⟨fun _ => w_fail (by decide) t4 (fun h5 l5 f5 => ?_), fun z => absurd z (by decide)⟩
          have F5 : ∀ i k, i ≠ 3 → i ≠ 5 → ¬ (s ≤ i ∧ i ≤ s + 3) → h5 i k = h i k := fun i k p1 p2 p3 => by rw [f5 i k p1, F4 i k p1 p2 p3]
          first | exact ⟨rfl, Or.inl ⟨_, eQ, l5⟩, F5⟩ | exact ⟨Or.inl ⟨_, eQ, l5⟩, F5⟩
        · rw [if_neg (fun z => z.2 (tK_0.mpr lt))]
          rw [if_neg lt] at eQ
          have iR : isR h4 s 13 c := ⟨by rw [v4.1]; decide, by rw [v4.1, v4.2]; simp, by rw [v4.2]; omega, fun j hj => by rw [v4.1]; have := k4.2.2 j hj; simpa using this⟩
          refine ⟨fun y => absurd (by trivial) y, fun _ => ?_⟩
          first | exact ⟨rfl, Or.inr ⟨c, eQ, ⟨rfl, t4.2.1.2⟩, iR⟩, F4⟩ | exact ⟨Or.inr ⟨c, eQ, ⟨rfl, t4.2.1.2⟩, iR⟩, F4⟩
    · rintro e5 h5 ⟨rfl, hc, F5⟩
      simp -implicitDefEqProofs only [↓dn_den, ↓dn_loc, ↓dn_k, ↓dn_add, ↓dn_sub, ↓dn_mul, ↓dn_div, ↓dn_rem, ↓dn_bop, ↓dn_ladd, ↓dn_lsub, ↓dn_lmul, ↓dn_ldiv, ↓dn_lrem, ↓dn_land, ↓dn_l2i, ↓dn_neg, ↓dn_get, ↓dn_fix, ↓dn_ald, ↓dn_gld, ↓dn_yld, ↓dn_len, ↓dn_gln, ↓dn_cc, ↓dn_cb, ↓dn_and, ↓dn_or, ↓dn_not, ↓dn_cite, ↓dn_ec, ↓dn_ei, ↓dn_skip, ↓dn_seq, ↓dn_set, ↓dn_inc, ↓dn_putf, ↓dn_putz, ↓dn_ast, ↓dn_exp, ↓dn_if, ↓dn_ret, ↓dn_retz, ↓dn_retv, ↓dn_brk, ↓dn_cont, ↓dn_cs, ↓dn_sw, ↓dn_pop32, ↓dn_pop64, ↓dn_aop, ↓dn_call, ↓dn_max, ↓dn_min, ↓dn_acp, ↓dn_i2l, ↓dn_args0, ↓dn_args1, og_pad, og_ent, og_rlt, og_rle, og_rgt, og_rge, og_req, og_rne, og_padd, og_psub, og_pmul, List.getD_cons_zero, List.getD_cons_succ, List.set_cons_zero, List.set_cons_succ, List.length_cons, List.length_nil, List.cons_append, List.nil_append, List.replicate, List.append_nil, Nat.reduceAdd, Nat.reduceSub, Nat.reduceEqDiff, if_true, if_false, reduceIte, Int.reduceAdd, Int.reduceSub, Int.reduceMul, Int.reduceNeg, Int.reduceLT, Int.reduceLE, Int.cast_ofNat_Int, true_or, or_true, true_and, and_true, false_and, List.mem_cons, List.not_mem_nil, or_false, false_or, ne_eq]
      rcases hc with ⟨z, e, l5⟩ | ⟨c, e, t5, iR⟩
      · have fin := hK h5 (fun z' e' => by rw [e] at e'; have e' := Sum.inr.inj e'; subst e'; exact ⟨l5.1, l5.2.1, l5.2.2.1⟩) (fun k c e' => by rw [e] at e'; cases e') F5
        rw [e] at fin
        exact ⟨fun y => absurd (l5.1.symm.trans y) l5.2.2.1, fun _ => fin⟩
      · have fin := hK h5 (fun z' e' => by rw [e] at e'; cases e') (fun k c' e' => by
          rw [e] at e'
          have e' := Sum.inl.inj e'
          rw [Prod.mk.injEq] at e'
          rw [← e'.2]
          exact ⟨t5, iR⟩) F5
        rw [e] at fin
        exact ⟨fun _ => fin, fun y => absurd t5.1 y⟩
theorem c_joined {k ans v p : Int} (hv : -1000000 ≤ v ∧ v ≤ 1000000) (ha : -100000000 ≤ ans ∧ ans ≤ 100000000) (hK : K (qSt k ans v p) h) : m_OG_joined [k, ans, v, p] h K := by
  unfold m_OG_joined
  simp -implicitDefEqProofs only [↓dn_den, ↓dn_loc, ↓dn_k, ↓dn_add, ↓dn_sub, ↓dn_mul, ↓dn_div, ↓dn_rem, ↓dn_bop, ↓dn_ladd, ↓dn_lsub, ↓dn_lmul, ↓dn_ldiv, ↓dn_lrem, ↓dn_land, ↓dn_l2i, ↓dn_neg, ↓dn_get, ↓dn_fix, ↓dn_ald, ↓dn_gld, ↓dn_yld, ↓dn_len, ↓dn_gln, ↓dn_cc, ↓dn_cb, ↓dn_and, ↓dn_or, ↓dn_not, ↓dn_cite, ↓dn_ec, ↓dn_ei, ↓dn_skip, ↓dn_seq, ↓dn_set, ↓dn_inc, ↓dn_putf, ↓dn_putz, ↓dn_ast, ↓dn_exp, ↓dn_if, ↓dn_ret, ↓dn_retz, ↓dn_retv, ↓dn_brk, ↓dn_cont, ↓dn_cs, ↓dn_sw, ↓dn_pop32, ↓dn_pop64, ↓dn_aop, ↓dn_call, ↓dn_max, ↓dn_min, ↓dn_acp, ↓dn_i2l, ↓dn_args0, ↓dn_args1, og_pad, og_ent, og_rlt, og_rle, og_rgt, og_rge, og_req, og_rne, og_padd, og_psub, og_pmul, List.getD_cons_zero, List.getD_cons_succ, List.set_cons_zero, List.set_cons_succ, List.length_cons, List.length_nil, List.cons_append, List.nil_append, List.replicate, List.append_nil, Nat.reduceAdd, Nat.reduceSub, Nat.reduceEqDiff, if_true, if_false, reduceIte, Int.reduceAdd, Int.reduceSub, Int.reduceMul, Int.reduceNeg, Int.reduceLT, Int.reduceLE, Int.cast_ofNat_Int, true_or, or_true, true_and, and_true, false_and, List.mem_cons, List.not_mem_nil, or_false, false_or, ne_eq, og_i64]
  unfold qSt at hK
  refine ⟨fun z => ?_, fun z => ⟨fun y => ?_, fun y => ⟨fun x => ?_, fun x => ⟨fun w => ?_, fun w => ?_⟩⟩⟩⟩
  · rw [if_pos z] at hK
    refine ⟨fun a => ⟨fun b => ?_, fun b => ?_⟩, fun a => ?_⟩
    · rw [if_pos ⟨a, b⟩] at hK; exact hK
    · rw [if_neg (fun q => b q.2)] at hK; exact hK
    · rw [if_neg (fun q => a q.1)] at hK; exact hK
  · rw [if_neg z, if_pos y] at hK
    refine ⟨fun b => ?_, fun b => ?_⟩
    · rw [if_pos b] at hK; exact hK
    · rw [if_neg b] at hK; exact hK
  · rw [if_neg z, if_neg y, if_pos x] at hK
    refine ⟨fun b => ?_, fun b => ?_⟩
    · rw [if_pos b] at hK; exact hK
    · rw [if_neg b] at hK; exact hK
  · rw [if_neg z, if_neg y, if_neg x, if_pos w] at hK
    refine ⟨fun b => ?_, fun b => ?_⟩
    · rw [if_pos b] at hK; exact hK
    · rw [if_neg b] at hK; exact hK
  · rw [if_neg z, if_neg y, if_neg x, if_neg w] at hK
    exact ⟨by omega, hK⟩
theorem pe_ei {C : og_Cd} {env : List Int} {h : Hp} {P : Prop} {a b : Int} {K : Int → Hp → Prop} (hC : pc C env P) (hK : ∀ x, ((x = a ∧ P) ∨ (x = b ∧ ¬ P)) → K x h) : og_ei C (og_k a) (og_k b) env h K := by
  rw [dn_ei]
  exact hC h _ _ (fun p => hK a (Or.inl ⟨rfl, p⟩)) (fun p => hK b (Or.inr ⟨rfl, p⟩))
theorem c_ask (hr : relC q h A P U X) (hx : okX n A P U X) (hK0 : ∀ z, gQ (X 2) (X 0 1) = .inr z → ∀ h', relC q h' A P U (sFt X z.1 z.2) → K (-1000000000000000) h') (hK1 : ∀ k c, gQ (X 2) (X 0 1) = .inl (k, c) → ∀ h', relC q h' A P U (sFt X 0 (-1)) → K (qFo k c A (sNp A)) h') : m_OG_ask [0] h K := by
  have hp := draft_of hr
  have ht := txC_rel hr hx
  have ho := hx.1.1
  have h6 := ho.1
  unfold m_OG_ask
  simp -implicitDefEqProofs only [↓dn_den, ↓dn_loc, ↓dn_k, ↓dn_add, ↓dn_sub, ↓dn_mul, ↓dn_div, ↓dn_rem, ↓dn_bop, ↓dn_ladd, ↓dn_lsub, ↓dn_lmul, ↓dn_ldiv, ↓dn_lrem, ↓dn_land, ↓dn_l2i, ↓dn_neg, ↓dn_get, ↓dn_fix, ↓dn_ald, ↓dn_gld, ↓dn_yld, ↓dn_len, ↓dn_gln, ↓dn_cc, ↓dn_cb, ↓dn_and, ↓dn_not, ↓dn_cite, ↓dn_skip, ↓dn_seq, ↓dn_set, ↓dn_inc, ↓dn_putf, ↓dn_putz, ↓dn_ast, ↓dn_exp, ↓dn_ret, ↓dn_retz, ↓dn_retv, ↓dn_brk, ↓dn_cont, ↓dn_cs, ↓dn_sw, ↓dn_pop32, ↓dn_pop64, ↓dn_aop, ↓dn_call, ↓dn_max, ↓dn_min, ↓dn_acp, ↓dn_i2l, ↓dn_args0, ↓dn_args1, og_pad, og_ent, og_rlt, og_rle, og_rgt, og_rge, og_req, og_rne, og_padd, og_psub, og_pmul, List.getD_cons_zero, List.getD_cons_succ, List.set_cons_zero, List.set_cons_succ, List.length_cons, List.length_nil, List.cons_append, List.nil_append, List.replicate, List.append_nil, Nat.reduceAdd, Nat.reduceSub, Nat.reduceEqDiff, if_true, if_false, reduceIte, Int.reduceAdd, Int.reduceSub, Int.reduceMul, Int.reduceNeg, Int.reduceLT, Int.reduceLE, Int.cast_ofNat_Int, true_or, or_true, true_and, and_true, false_and, List.mem_cons, List.not_mem_nil, or_false, false_or, ne_eq]
  generalize hpe : h 0 16 = p at hp
  refine w_readQuestion (s := p + 2) (by omega) ht (fun h1 g0 g1 f1 => ?_)
  refine w_keepFault (fun h2 v13 v14 f2 => ?_)
  have F : ∀ i j, i ≠ 3 → i ≠ 5 → ¬ (p ≤ i ∧ i ≤ p + 9) → ¬ (i = 0 ∧ (j = 13 ∨ j = 14)) → ¬ (i = 1 ∧ j = 1) → og_up h2 1 1 0 i j = h i j := fun i j p1 p2 p3 p5 p6 => by
    have : og_up h2 1 1 0 i j = h2 i j := by unfold og_up; exact if_neg p6
    rw [this, f2 i j p5, f1 i j p1 p2 (by omega)]
  have G : ∀ i j, (p ≤ i ∧ i ≤ p + 9) → og_up h2 1 1 0 i j = h1 i j := fun i j hi => by rw [og_up_i (by omega), f2 i j (by omega)]
  have e13 : og_up h2 1 1 0 0 13 = h1 3 7 := by rw [og_up_i (by decide)]; exact v13
  have e14 : og_up h2 1 1 0 0 14 = h1 3 8 := by rw [og_up_i (by decide)]; exact v14
  have e11 : og_up h2 1 1 0 1 1 = 0 := og_up_eq
  generalize og_up h2 1 1 0 = h3 at F G e13 e14 e11
  have rel : ∀ k0 p0, h1 3 7 = k0 → h1 3 8 = p0 → relC q h3 A P U (sFt X k0 p0) := fun k0 p0 a b => relC_ft hr (fun i j p1 p2 p3 p4 p5 p6 _ => F i j p1 p2 (by omega) p5 p6) (e13.trans a) (e14.trans b) e11
  refine pc_if pc_cc (fun y => ?_) (fun y => ?_)
  · have y : gQk (gQ (X 2) (X 0 1)) = -1 := y
    simp -implicitDefEqProofs only [↓dn_den, ↓dn_loc, ↓dn_k, ↓dn_add, ↓dn_sub, ↓dn_mul, ↓dn_div, ↓dn_rem, ↓dn_bop, ↓dn_ladd, ↓dn_lsub, ↓dn_lmul, ↓dn_ldiv, ↓dn_lrem, ↓dn_land, ↓dn_l2i, ↓dn_neg, ↓dn_get, ↓dn_fix, ↓dn_ald, ↓dn_gld, ↓dn_yld, ↓dn_len, ↓dn_gln, ↓dn_cc, ↓dn_cb, ↓dn_and, ↓dn_or, ↓dn_not, ↓dn_cite, ↓dn_ec, ↓dn_ei, ↓dn_skip, ↓dn_seq, ↓dn_set, ↓dn_inc, ↓dn_putf, ↓dn_putz, ↓dn_ast, ↓dn_exp, ↓dn_if, ↓dn_ret, ↓dn_retz, ↓dn_retv, ↓dn_brk, ↓dn_cont, ↓dn_cs, ↓dn_sw, ↓dn_pop32, ↓dn_pop64, ↓dn_aop, ↓dn_call, ↓dn_max, ↓dn_min, ↓dn_acp, ↓dn_i2l, ↓dn_args0, ↓dn_args1, og_pad, og_ent, og_rlt, og_rle, og_rgt, og_rge, og_req, og_rne, og_padd, og_psub, og_pmul, List.getD_cons_zero, List.getD_cons_succ, List.set_cons_zero, List.set_cons_succ, List.length_cons, List.length_nil, List.cons_append, List.nil_append, List.replicate, List.append_nil, Nat.reduceAdd, Nat.reduceSub, Nat.reduceEqDiff, if_true, if_false, reduceIte, Int.reduceAdd, Int.reduceSub, Int.reduceMul, Int.reduceNeg, Int.reduceLT, Int.reduceLE, Int.cast_ofNat_Int, true_or, or_true, true_and, and_true, false_and, List.mem_cons, List.not_mem_nil, or_false, false_or, ne_eq]
    cases e : gQ (X 2) (X 0 1) with
    | inl w =>
      obtain ⟨k, c⟩ := w
      have := (gQ_in e).1
      rw [e] at y
      have y : k = -1 := y
      omega
    | inr z =>
      have g0 := g0 z e
      exact hK0 z e h3 (rel _ _ g0.1 g0.2.1)
  · have y : ¬ gQk (gQ (X 2) (X 0 1)) = -1 := y
    simp -implicitDefEqProofs only [↓dn_den, ↓dn_loc, ↓dn_k, ↓dn_add, ↓dn_sub, ↓dn_mul, ↓dn_div, ↓dn_rem, ↓dn_bop, ↓dn_ladd, ↓dn_lsub, ↓dn_lmul, ↓dn_ldiv, ↓dn_lrem, ↓dn_land, ↓dn_l2i, ↓dn_neg, ↓dn_get, ↓dn_fix, ↓dn_ald, ↓dn_gld, ↓dn_yld, ↓dn_len, ↓dn_gln, ↓dn_cc, ↓dn_cb, ↓dn_and, ↓dn_not, ↓dn_cite, ↓dn_skip, ↓dn_seq, ↓dn_set, ↓dn_inc, ↓dn_putf, ↓dn_putz, ↓dn_ast, ↓dn_exp, ↓dn_ret, ↓dn_retz, ↓dn_retv, ↓dn_brk, ↓dn_cont, ↓dn_cs, ↓dn_sw, ↓dn_pop32, ↓dn_pop64, ↓dn_aop, ↓dn_call, ↓dn_max, ↓dn_min, ↓dn_acp, ↓dn_i2l, ↓dn_args0, ↓dn_args1, og_pad, og_ent, og_rlt, og_rle, og_rgt, og_rge, og_req, og_rne, og_padd, og_psub, og_pmul, List.getD_cons_zero, List.getD_cons_succ, List.set_cons_zero, List.set_cons_succ, List.length_cons, List.length_nil, List.cons_append, List.nil_append, List.replicate, List.append_nil, Nat.reduceAdd, Nat.reduceSub, Nat.reduceEqDiff, if_true, if_false, reduceIte, Int.reduceAdd, Int.reduceSub, Int.reduceMul, Int.reduceNeg, Int.reduceLT, Int.reduceLE, Int.cast_ofNat_Int, true_or, or_true, true_and, and_true, false_and, List.mem_cons, List.not_mem_nil, or_false, false_or, ne_eq]
    cases e : gQ (X 2) (X 0 1) with
    | inr z => exact absurd (by rw [e]; rfl) y
    | inl w =>
      obtain ⟨k, c⟩ := w
      have qi := gQ_in e
      obtain ⟨u, hw, -⟩ := qi.2.2
      have g1 := g1 k c e
      have r3 := rel 0 (-1) g1.1.1 g1.1.2
      have iR : isR h3 (p + 2) 13 c := isR_eq g1.2 (fun i k p q => G i k (by omega))
      refine pe_ei (pc_or pc_cc pc_cc) (fun x hx0 => ?_)
      simp only [List.getD_cons_zero, List.getD_cons_succ, og_req] at hx0
      have ex : x = qFo k c A 0 := by
        have hx0 : (x = -1 ∧ (k = 25 ∨ k = 26)) ∨ (x = 0 ∧ ¬ (k = 25 ∨ k = 26)) := hx0
        unfold qFo
        rcases hx0 with ⟨a, b⟩ | ⟨a, b⟩
        · rw [if_pos b]; exact a
        · rw [if_neg b]; exact a
      refine ⟨fun e4 h4 => (∃ y5, e4 = [0, p + 2, k, qFo k c A (sNp A), 0, y5]) ∧ (∀ i j, i ≠ 7 → h4 i j = h3 i j), ?_, ?_⟩
      · simp -implicitDefEqProofs only [↓dn_den, ↓dn_loc, ↓dn_k, ↓dn_add, ↓dn_sub, ↓dn_mul, ↓dn_div, ↓dn_rem, ↓dn_bop, ↓dn_ladd, ↓dn_lsub, ↓dn_lmul, ↓dn_ldiv, ↓dn_lrem, ↓dn_land, ↓dn_l2i, ↓dn_neg, ↓dn_get, ↓dn_fix, ↓dn_ald, ↓dn_gld, ↓dn_yld, ↓dn_len, ↓dn_gln, ↓dn_cc, ↓dn_cb, ↓dn_and, ↓dn_or, ↓dn_not, ↓dn_cite, ↓dn_ec, ↓dn_ei, ↓dn_skip, ↓dn_seq, ↓dn_set, ↓dn_inc, ↓dn_putf, ↓dn_putz, ↓dn_ast, ↓dn_exp, ↓dn_if, ↓dn_ret, ↓dn_retz, ↓dn_retv, ↓dn_brk, ↓dn_cont, ↓dn_cs, ↓dn_sw, ↓dn_pop32, ↓dn_pop64, ↓dn_aop, ↓dn_call, ↓dn_max, ↓dn_min, ↓dn_acp, ↓dn_i2l, ↓dn_args0, ↓dn_args1, og_pad, og_ent, og_rlt, og_rle, og_rgt, og_rge, og_req, og_rne, og_padd, og_psub, og_pmul, List.getD_cons_zero, List.getD_cons_succ, List.set_cons_zero, List.set_cons_succ, List.length_cons, List.length_nil, List.cons_append, List.nil_append, List.replicate, List.append_nil, Nat.reduceAdd, Nat.reduceSub, Nat.reduceEqDiff, if_true, if_false, reduceIte, Int.reduceAdd, Int.reduceSub, Int.reduceMul, Int.reduceNeg, Int.reduceLT, Int.reduceLE, Int.cast_ofNat_Int, true_or, or_true, true_and, and_true, false_and, List.mem_cons, List.not_mem_nil, or_false, false_or, ne_eq]
        rw [ex]
        refine og_loop (sNp A) (fun i e4 h4 => e4 = [0, p + 2, k, qFo k c A i, 0, (i : Int)] ∧ (∀ i j, i ≠ 7 → h4 i j = h3 i j)) ⟨rfl, fun _ _ _ => rfl⟩ ?_
        rintro i e4 h4 hi ⟨rfl, f4⟩
        simp -implicitDefEqProofs only [↓dn_den, ↓dn_loc, ↓dn_k, ↓dn_add, ↓dn_sub, ↓dn_mul, ↓dn_div, ↓dn_rem, ↓dn_bop, ↓dn_ladd, ↓dn_lsub, ↓dn_lmul, ↓dn_ldiv, ↓dn_lrem, ↓dn_land, ↓dn_l2i, ↓dn_neg, ↓dn_get, ↓dn_fix, ↓dn_ald, ↓dn_gld, ↓dn_yld, ↓dn_len, ↓dn_gln, ↓dn_cc, ↓dn_cb, ↓dn_and, ↓dn_or, ↓dn_not, ↓dn_cite, ↓dn_ec, ↓dn_ei, ↓dn_skip, ↓dn_seq, ↓dn_set, ↓dn_inc, ↓dn_putf, ↓dn_putz, ↓dn_ast, ↓dn_exp, ↓dn_if, ↓dn_ret, ↓dn_retz, ↓dn_retv, ↓dn_brk, ↓dn_cont, ↓dn_cs, ↓dn_sw, ↓dn_pop32, ↓dn_pop64, ↓dn_aop, ↓dn_call, ↓dn_max, ↓dn_min, ↓dn_acp, ↓dn_i2l, ↓dn_args0, ↓dn_args1, og_pad, og_ent, og_rlt, og_rle, og_rgt, og_rge, og_req, og_rne, og_padd, og_psub, og_pmul, List.getD_cons_zero, List.getD_cons_succ, List.set_cons_zero, List.set_cons_succ, List.length_cons, List.length_nil, List.cons_append, List.nil_append, List.replicate, List.append_nil, Nat.reduceAdd, Nat.reduceSub, Nat.reduceEqDiff, if_true, if_false, reduceIte, Int.reduceAdd, Int.reduceSub, Int.reduceMul, Int.reduceNeg, Int.reduceLT, Int.reduceLE, Int.cast_ofNat_Int, true_or, or_true, true_and, and_true, false_and, List.mem_cons, List.not_mem_nil, or_false, false_or, ne_eq, og_i32]
        have y4 : isY h4 100 A := isY_fr r3.1 (fun i k a b => f4 i k (by omega))
        rw [y4.1.2.1]
        unfold sNp at hi
        refine ⟨fun hlt => ?_, fun hge => ?_⟩
        · have ov : okV A (i : Int) := ⟨ho, by omega, hlt⟩
          refine s_Reck_value (s := p + 2) (isR_eq iR (fun i k p q => f4 i k (by omega))) (by decide) (by omega) (by decide) y4 ov (by decide) hw (fun h5 f5 => ?_)
          have rg := qFo_rg (k := k) ho hw i (by omega)
          refine c_joined (sVal_ty ov (by decide) hw).1 (by omega) ⟨by omega, og_nx_mk (by unfold sNp; omega) ⟨by simp [qFo_s], fun i j hij => by rw [f5 i j hij, f4 i j hij]⟩⟩
        · have ei : i = sNp A := by unfold sNp; omega
          subst ei
          exact ⟨⟨_, rfl⟩, f4⟩
      · rintro e4 h4 ⟨⟨y5, rfl⟩, f4⟩
        simp -implicitDefEqProofs only [↓dn_den, ↓dn_loc, ↓dn_k, ↓dn_add, ↓dn_sub, ↓dn_mul, ↓dn_div, ↓dn_rem, ↓dn_bop, ↓dn_ladd, ↓dn_lsub, ↓dn_lmul, ↓dn_ldiv, ↓dn_lrem, ↓dn_land, ↓dn_l2i, ↓dn_neg, ↓dn_get, ↓dn_fix, ↓dn_ald, ↓dn_gld, ↓dn_yld, ↓dn_len, ↓dn_gln, ↓dn_cc, ↓dn_cb, ↓dn_and, ↓dn_or, ↓dn_not, ↓dn_cite, ↓dn_ec, ↓dn_ei, ↓dn_skip, ↓dn_seq, ↓dn_set, ↓dn_inc, ↓dn_putf, ↓dn_putz, ↓dn_ast, ↓dn_exp, ↓dn_if, ↓dn_ret, ↓dn_retz, ↓dn_retv, ↓dn_brk, ↓dn_cont, ↓dn_cs, ↓dn_sw, ↓dn_pop32, ↓dn_pop64, ↓dn_aop, ↓dn_call, ↓dn_max, ↓dn_min, ↓dn_acp, ↓dn_i2l, ↓dn_args0, ↓dn_args1, og_pad, og_ent, og_rlt, og_rle, og_rgt, og_rge, og_req, og_rne, og_padd, og_psub, og_pmul, List.getD_cons_zero, List.getD_cons_succ, List.set_cons_zero, List.set_cons_succ, List.length_cons, List.length_nil, List.cons_append, List.nil_append, List.replicate, List.append_nil, Nat.reduceAdd, Nat.reduceSub, Nat.reduceEqDiff, if_true, if_false, reduceIte, Int.reduceAdd, Int.reduceSub, Int.reduceMul, Int.reduceNeg, Int.reduceLT, Int.reduceLE, Int.cast_ofNat_Int, true_or, or_true, true_and, and_true, false_and, List.mem_cons, List.not_mem_nil, or_false, false_or, ne_eq]
        exact hK1 k c e h4 (relC_S r3 (fun i j hp => f4 i j (by omega)))
end
end
