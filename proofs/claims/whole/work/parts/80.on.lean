section
-- reading an image: the class
def onA (A X : Yd) : Yd := fun c k => if c = 0 then (if k = 2 then 256 * X 2 0 + X 2 1 else if k = 3 then 0 else A 0 k) else if c = 2 then X 2 (2 + 3 * k) else if c = 3 then X 2 (3 + 3 * k) else if c = 4 then (if X 2 (4 + 3 * k) = 255 then -1 else X 2 (4 + 3 * k)) else if c = 8 then X 2 (2 + 3 * A 0 0 + 3 * k) else if c = 6 then X 2 (3 + 3 * A 0 0 + 3 * k) else if c = 7 then X 2 (4 + 3 * A 0 0 + 3 * k) else A c k
theorem onA_0 {A X : Yd} : onA A X 0 0 = A 0 0 ∧ onA A X 0 1 = A 0 1 ∧ onA A X 0 2 = 256 * X 2 0 + X 2 1 ∧ onA A X 0 3 = 0 := ⟨rfl, rfl, rfl, rfl⟩
theorem onA_c {A X : Yd} {k : Int} : onA A X 1 k = A 1 k ∧ onA A X 2 k = X 2 (2 + 3 * k) ∧ onA A X 3 k = X 2 (3 + 3 * k) ∧ onA A X 4 k = (if X 2 (4 + 3 * k) = 255 then -1 else X 2 (4 + 3 * k)) ∧ onA A X 5 k = A 5 k ∧ onA A X 6 k = X 2 (3 + 3 * A 0 0 + 3 * k) ∧ onA A X 7 k = X 2 (4 + 3 * A 0 0 + 3 * k) ∧ onA A X 8 k = X 2 (2 + 3 * A 0 0 + 3 * k) := ⟨rfl, rfl, rfl, rfl, rfl, rfl, rfl, rfl⟩
def inB (B : Yd) (g : Nat) : Bool := decide (B 4 g = -1) || (decide (0 ≤ B 4 g ∧ B 4 g < B 0 1) && decide (¬ B 8 (B 4 g) = 1) && decide (B 5 (B 4 g) ≤ B 1 g) && sAll (fun g' => decide (¬ B 4 (g' : Int) = B 4 g)) g)
def sdP (B : Yd) (p : Nat) : Bool := decide (B 8 p ≤ 1) && decide (B 6 p ≤ 99) && decide (B 7 p ≤ 9)
def sdG (B : Yd) (g : Nat) : Bool := decide (B 2 g ≤ 9) && decide (B 3 g ≤ 30) && inB B g
def sSound (B : Yd) : Bool := decide (B 0 2 ≤ 999) && sAll (sdP B) (sNp B) && sAll (sdG B) (sNg B)
def onB (A X : Yd) : Bool := decide (X 0 1 = imS A + 1) && decide (X 2 (imS A) = mxN (X 2) (imS A).toNat) && sSound (onA A X)
theorem on_ok {A X : Yd} (ho : okY A) (hx : ∀ j, 0 ≤ j → j < X 0 1 → 0 ≤ X 2 j ∧ X 2 j ≤ 255) (hb : onB A X = true) : okY (onA A X) ∧ okK (onA A X) ∧ onA A X 0 2 ≤ 999 := by
  have h6 := ho.1
  unfold onB sSound at hb
  simp only [Bool.and_eq_true, decide_eq_true_eq, sAll_iff] at hb
  obtain ⟨⟨a, b⟩, ⟨c, d⟩, e⟩ := hb
  have es : imS A = 2 + 3 * A 0 0 + 3 * A 0 1 := rfl
  have hng : sNg (onA A X) = (A 0 0).toNat := rfl
  have hnp : sNp (onA A X) = (A 0 1).toNat := rfl
  have b0 := hx 0 (by omega) (by omega)
  have b1 := hx 1 (by omega) (by omega)
  rw [onA_0.2.2.1] at c
  have hok : okY (onA A X) := by
    refine ⟨?_, fun k k0 k1 => ?_, fun k k0 k1 => ?_⟩
    · rw [onA_0.1, onA_0.2.1, onA_0.2.2.1, onA_0.2.2.2]; omega
    · rw [onA_0.1] at k1
      have o1 := ho.2.1 k k0 k1
      have d1 := e k.toNat (by omega)
      unfold sdG inB at d1
      rw [Int.toNat_of_nonneg k0] at d1
      have t2 := hx (2 + 3 * k) (by omega) (by omega)
      have t3 := hx (3 + 3 * k) (by omega) (by omega)
      have t4 := hx (4 + 3 * k) (by omega) (by omega)
      have ec := onA_c (A := A) (X := X) (k := k)
      simp only [Bool.and_eq_true, Bool.or_eq_true, decide_eq_true_eq] at d1
      rw [ec.2.1, ec.2.2.1, onA_0.2.1] at d1
      rw [ec.1, ec.2.1, ec.2.2.1, onA_0.2.1]
      rcases d1.2 with z | z
      · omega
      · have := z.1.1.1; omega
    · rw [onA_0.2.1] at k1
      have o1 := ho.2.2 k k0 k1
      have d1 := d k.toNat (by omega)
      unfold sdP at d1
      rw [Int.toNat_of_nonneg k0] at d1
      simp only [Bool.and_eq_true, decide_eq_true_eq] at d1
      have ec := onA_c (A := A) (X := X) (k := k)
      have t2 := hx (2 + 3 * A 0 0 + 3 * k) (by omega) (by omega)
      have t3 := hx (3 + 3 * A 0 0 + 3 * k) (by omega) (by omega)
      have t4 := hx (4 + 3 * A 0 0 + 3 * k) (by omega) (by omega)
      rw [ec.2.2.2.2.1, ec.2.2.2.2.2.1, ec.2.2.2.2.2.2.1, ec.2.2.2.2.2.2.2]
      rw [ec.2.2.2.2.2.1, ec.2.2.2.2.2.2.1, ec.2.2.2.2.2.2.2] at d1
      omega
  refine ⟨hok, ?_, by rw [onA_0.2.2.1]; omega⟩
  unfold okK
  have := sCnt_le (sLive (onA A X)) (sNp (onA A X))
  rw [onA_0.2.2.2, onA_0.2.1]
  omega
section
variable {q h h0 h' : Hp} {A B : Yd} {P : Pr} {U : List Yd} {X : Yd} {n M : Int} {K : Int → Hp → Prop}
theorem s_Yard_isSoundInside {y : Int} {g : Nat} (hy : isY h y B) (hB : 0 ≤ B 0 0 ∧ B 0 0 ≤ 6 ∧ 0 ≤ B 0 1 ∧ B 0 1 ≤ 8) (hg : (g : Int) < B 0 0) (hK : K (if inB B g = true then 1 else 0) h) : m_Yard_isSoundInside [y, (g : Int)] h K := by
  have yes : inB B g = true → K 1 h := fun z => by rw [if_pos z] at hK; exact hK
  have no : inB B g = false → K 0 h := fun z => by rw [if_neg (by rw [z]; decide)] at hK; exact hK
  unfold m_Yard_isSoundInside
  simp -implicitDefEqProofs only [↓dn_den, ↓dn_loc, ↓dn_k, ↓dn_add, ↓dn_sub, ↓dn_mul, ↓dn_div, ↓dn_rem, ↓dn_bop, ↓dn_ladd, ↓dn_lsub, ↓dn_lmul, ↓dn_ldiv, ↓dn_lrem, ↓dn_land, ↓dn_l2i, ↓dn_neg, ↓dn_get, ↓dn_fix, ↓dn_ald, ↓dn_gld, ↓dn_yld, ↓dn_len, ↓dn_gln, ↓dn_cc, ↓dn_cb, ↓dn_and, ↓dn_or, ↓dn_not, ↓dn_cite, ↓dn_ec, ↓dn_ei, ↓dn_skip, ↓dn_seq, ↓dn_set, ↓dn_inc, ↓dn_putf, ↓dn_putz, ↓dn_ast, ↓dn_exp, ↓dn_if, ↓dn_ret, ↓dn_retz, ↓dn_retv, ↓dn_brk, ↓dn_cont, ↓dn_cs, ↓dn_sw, ↓dn_pop32, ↓dn_pop64, ↓dn_aop, ↓dn_call, ↓dn_max, ↓dn_min, ↓dn_acp, ↓dn_i2l, ↓dn_args0, ↓dn_args1, og_pad, og_ent, og_rlt, og_rle, og_rgt, og_rge, og_req, og_rne, og_padd, og_psub, og_pmul, List.getD_cons_zero, List.getD_cons_succ, List.set_cons_zero, List.set_cons_succ, List.length_cons, List.length_nil, List.cons_append, List.nil_append, List.replicate, List.append_nil, Nat.reduceAdd, Nat.reduceSub, Nat.reduceEqDiff, if_true, if_false, reduceIte, Int.reduceAdd, Int.reduceSub, Int.reduceMul, Int.reduceNeg, Int.reduceLT, Int.reduceLE, Int.cast_ofNat_Int, true_or, or_true, true_and, and_true, false_and, List.mem_cons, List.not_mem_nil, or_false, false_or, ne_eq]
  have e4 := (hy.2.1 g (by omega) hg).2.2.2
  rw [e4]
  refine ⟨by omega, by omega, fun a => yes (by unfold inB; simp [a]), fun a => ?_⟩
  refine s_Yard_isPerson ?_
  rw [hy.1.2.1]
  refine ⟨fun b => ?_, fun b => no (by unfold inB; simp only [decide_eq_false a, decide_eq_false (iteP0 b)]; rfl)⟩
  have b := iteP1 b
  have yp := hy.2.2.1 (B 4 g) b.1 b.2
  refine s_Yard_lives (by rw [hy.1.2.1]; omega) ?_
  rw [hy.1.2.1, yp.2.2.2]
  refine ⟨fun c => no (by unfold inB; have := (iteP1 c).2; simp [a, this]), fun c => ?_⟩
  have c : ¬ B 8 (B 4 g) = 1 := fun z => iteP0 c ⟨b, z⟩
  refine s_Yard_fits (by omega) (by omega) b.1 (by omega) ?_
  rw [yp.1, (hy.2.1 g (by omega) hg).1]
  refine ⟨fun d => ?_, fun d => no (by unfold inB; simp only [decide_eq_false a, decide_eq_false (iteP0 d)]; simp)⟩
  have d := iteP1 d
  have e0 : inB B g = sAll (fun g' => decide (¬ B 4 (g' : Int) = B 4 g)) g := by unfold inB; simp [a, b, c, d]
  rw [e0] at yes no
  refine ⟨fun e1 h1 => h1 = h ∧ sAll (fun g' => decide (¬ B 4 (g' : Int) = B 4 g)) g = true, ?_, ?_⟩
  · simp -implicitDefEqProofs only [↓dn_den, ↓dn_loc, ↓dn_k, ↓dn_add, ↓dn_sub, ↓dn_mul, ↓dn_div, ↓dn_rem, ↓dn_bop, ↓dn_ladd, ↓dn_lsub, ↓dn_lmul, ↓dn_ldiv, ↓dn_lrem, ↓dn_land, ↓dn_l2i, ↓dn_neg, ↓dn_get, ↓dn_fix, ↓dn_ald, ↓dn_gld, ↓dn_yld, ↓dn_len, ↓dn_gln, ↓dn_cc, ↓dn_cb, ↓dn_and, ↓dn_or, ↓dn_not, ↓dn_cite, ↓dn_ec, ↓dn_ei, ↓dn_skip, ↓dn_seq, ↓dn_set, ↓dn_inc, ↓dn_putf, ↓dn_putz, ↓dn_ast, ↓dn_exp, ↓dn_if, ↓dn_ret, ↓dn_retz, ↓dn_retv, ↓dn_brk, ↓dn_cont, ↓dn_cs, ↓dn_sw, ↓dn_pop32, ↓dn_pop64, ↓dn_aop, ↓dn_call, ↓dn_max, ↓dn_min, ↓dn_acp, ↓dn_i2l, ↓dn_args0, ↓dn_args1, og_pad, og_ent, og_rlt, og_rle, og_rgt, og_rge, og_req, og_rne, og_padd, og_psub, og_pmul, List.getD_cons_zero, List.getD_cons_succ, List.set_cons_zero, List.set_cons_succ, List.length_cons, List.length_nil, List.cons_append, List.nil_append, List.replicate, List.append_nil, Nat.reduceAdd, Nat.reduceSub, Nat.reduceEqDiff, if_true, if_false, reduceIte, Int.reduceAdd, Int.reduceSub, Int.reduceMul, Int.reduceNeg, Int.reduceLT, Int.reduceLE, Int.cast_ofNat_Int, true_or, or_true, true_and, and_true, false_and, List.mem_cons, List.not_mem_nil, or_false, false_or, ne_eq]
    refine og_loop g (fun i e1 h1 => h1 = h ∧ e1 = [y, (g : Int), B 4 g, (i : Int)] ∧ sAll (fun g' => decide (¬ B 4 (g' : Int) = B 4 g)) i = true) ⟨rfl, rfl, rfl⟩ ?_
    rintro i e1 h1 hi ⟨rfl, rfl, ha⟩
    simp -implicitDefEqProofs only [↓dn_den, ↓dn_loc, ↓dn_k, ↓dn_add, ↓dn_sub, ↓dn_mul, ↓dn_div, ↓dn_rem, ↓dn_bop, ↓dn_ladd, ↓dn_lsub, ↓dn_lmul, ↓dn_ldiv, ↓dn_lrem, ↓dn_land, ↓dn_l2i, ↓dn_neg, ↓dn_get, ↓dn_fix, ↓dn_ald, ↓dn_gld, ↓dn_yld, ↓dn_len, ↓dn_gln, ↓dn_cc, ↓dn_cb, ↓dn_and, ↓dn_or, ↓dn_not, ↓dn_cite, ↓dn_ec, ↓dn_ei, ↓dn_skip, ↓dn_seq, ↓dn_set, ↓dn_inc, ↓dn_putf, ↓dn_putz, ↓dn_ast, ↓dn_exp, ↓dn_if, ↓dn_ret, ↓dn_retz, ↓dn_retv, ↓dn_brk, ↓dn_cont, ↓dn_cs, ↓dn_sw, ↓dn_pop32, ↓dn_pop64, ↓dn_aop, ↓dn_call, ↓dn_max, ↓dn_min, ↓dn_acp, ↓dn_i2l, ↓dn_args0, ↓dn_args1, og_pad, og_ent, og_rlt, og_rle, og_rgt, og_rge, og_req, og_rne, og_padd, og_psub, og_pmul, List.getD_cons_zero, List.getD_cons_succ, List.set_cons_zero, List.set_cons_succ, List.length_cons, List.length_nil, List.cons_append, List.nil_append, List.replicate, List.append_nil, Nat.reduceAdd, Nat.reduceSub, Nat.reduceEqDiff, if_true, if_false, reduceIte, Int.reduceAdd, Int.reduceSub, Int.reduceMul, Int.reduceNeg, Int.reduceLT, Int.reduceLE, Int.cast_ofNat_Int, true_or, or_true, true_and, and_true, false_and, List.mem_cons, List.not_mem_nil, or_false, false_or, ne_eq, og_i32]
    refine ⟨fun hlt => ?_, fun hge => ?_⟩
    · have e4i := (hy.2.1 i (by omega) (by omega)).2.2.2
      rw [e4i]
      refine ⟨by omega, by omega, fun z => ?_, fun z => ⟨by omega, og_nx_mk (by omega) ⟨rfl, by simp, by rw [sAll_s, ha, decide_eq_true z]; rfl⟩⟩⟩
      first | exact ⟨by decide, no (sAll_f (k := i) (by omega) (decide_eq_false (fun q => q z)))⟩ | exact no (sAll_f (k := i) (by omega) (decide_eq_false (fun q => q z)))
    · have e : i = g := by omega
      subst e
      first | exact ⟨rfl, ha⟩ | exact ha
  · rintro e1 h1 ⟨rfl, hz⟩
    simp -implicitDefEqProofs only [↓dn_den, ↓dn_loc, ↓dn_k, ↓dn_add, ↓dn_sub, ↓dn_mul, ↓dn_div, ↓dn_rem, ↓dn_bop, ↓dn_ladd, ↓dn_lsub, ↓dn_lmul, ↓dn_ldiv, ↓dn_lrem, ↓dn_land, ↓dn_l2i, ↓dn_neg, ↓dn_get, ↓dn_fix, ↓dn_ald, ↓dn_gld, ↓dn_yld, ↓dn_len, ↓dn_gln, ↓dn_cc, ↓dn_cb, ↓dn_and, ↓dn_or, ↓dn_not, ↓dn_cite, ↓dn_ec, ↓dn_ei, ↓dn_skip, ↓dn_seq, ↓dn_set, ↓dn_inc, ↓dn_putf, ↓dn_putz, ↓dn_ast, ↓dn_exp, ↓dn_if, ↓dn_ret, ↓dn_retz, ↓dn_retv, ↓dn_brk, ↓dn_cont, ↓dn_cs, ↓dn_sw, ↓dn_pop32, ↓dn_pop64, ↓dn_aop, ↓dn_call, ↓dn_max, ↓dn_min, ↓dn_acp, ↓dn_i2l, ↓dn_args0, ↓dn_args1, og_pad, og_ent, og_rlt, og_rle, og_rgt, og_rge, og_req, og_rne, og_padd, og_psub, og_pmul, List.getD_cons_zero, List.getD_cons_succ, List.set_cons_zero, List.set_cons_succ, List.length_cons, List.length_nil, List.cons_append, List.nil_append, List.replicate, List.append_nil, Nat.reduceAdd, Nat.reduceSub, Nat.reduceEqDiff, if_true, if_false, reduceIte, Int.reduceAdd, Int.reduceSub, Int.reduceMul, Int.reduceNeg, Int.reduceLT, Int.reduceLE, Int.cast_ofNat_Int, true_or, or_true, true_and, and_true, false_and, List.mem_cons, List.not_mem_nil, or_false, false_or, ne_eq]
    first | exact yes hz | exact ⟨by decide, yes hz⟩
theorem s_Yard_isSound {y : Int} (hy : isY h y B) (hB : 0 ≤ B 0 0 ∧ B 0 0 ≤ 6 ∧ 0 ≤ B 0 1 ∧ B 0 1 ≤ 8) (hK : K (if sSound B = true then 1 else 0) h) : m_Yard_isSound [y] h K := by
  have hng : sNg B = (B 0 0).toNat := rfl
  have hnp : sNp B = (B 0 1).toNat := rfl
  unfold m_Yard_isSound
  simp -implicitDefEqProofs only [↓dn_den, ↓dn_loc, ↓dn_k, ↓dn_add, ↓dn_sub, ↓dn_mul, ↓dn_div, ↓dn_rem, ↓dn_bop, ↓dn_ladd, ↓dn_lsub, ↓dn_lmul, ↓dn_ldiv, ↓dn_lrem, ↓dn_land, ↓dn_l2i, ↓dn_neg, ↓dn_get, ↓dn_fix, ↓dn_ald, ↓dn_gld, ↓dn_yld, ↓dn_len, ↓dn_gln, ↓dn_cc, ↓dn_cb, ↓dn_and, ↓dn_or, ↓dn_not, ↓dn_cite, ↓dn_ec, ↓dn_ei, ↓dn_skip, ↓dn_seq, ↓dn_set, ↓dn_inc, ↓dn_putf, ↓dn_putz, ↓dn_ast, ↓dn_exp, ↓dn_if, ↓dn_ret, ↓dn_retz, ↓dn_retv, ↓dn_brk, ↓dn_cont, ↓dn_cs, ↓dn_sw, ↓dn_pop32, ↓dn_pop64, ↓dn_aop, ↓dn_call, ↓dn_max, ↓dn_min, ↓dn_acp, ↓dn_i2l, ↓dn_args0, ↓dn_args1, og_pad, og_ent, og_rlt, og_rle, og_rgt, og_rge, og_req, og_rne, og_padd, og_psub, og_pmul, List.getD_cons_zero, List.getD_cons_succ, List.set_cons_zero, List.set_cons_succ, List.length_cons, List.length_nil, List.cons_append, List.nil_append, List.replicate, List.append_nil, Nat.reduceAdd, Nat.reduceSub, Nat.reduceEqDiff, if_true, if_false, reduceIte, Int.reduceAdd, Int.reduceSub, Int.reduceMul, Int.reduceNeg, Int.reduceLT, Int.reduceLE, Int.cast_ofNat_Int, true_or, or_true, true_and, and_true, false_and, List.mem_cons, List.not_mem_nil, or_false, false_or, ne_eq]
  rw [hy.1.2.2.1]
  have fal : ∀ {f : Nat → Bool} {i m : Nat}, i ≤ m → sAll f i = false → sAll f m = false := by
    intro f i m hi hf
    by_cases hq : sAll f m = true
    · have : sAll f i = true := (sAll_iff _).mpr (fun k hk => (sAll_iff _).mp hq k (by omega))
      rw [hf] at this; exact absurd this (by decide)
    · simpa using hq
  refine (fun (tail : ∀ (e1 : List Int) (h1 : Hp), (h1 = h ∧ ∃ c2, e1 = [y, (if (decide (B 0 2 ≤ 999) && sAll (sdP B) (sNp B)) = true then 1 else 0), c2]) → _) => ⟨fun a => ⟨_, ?_, tail⟩, fun a => ⟨_, ?_, tail⟩⟩) ?_
  · rintro e1 h1 ⟨rfl, c2, rfl⟩
    refine ⟨fun e2 h2 => h2 = h1 ∧ ∃ c2, e2 = [y, (if sSound B = true then 1 else 0), c2], ?_, ?_⟩
    · simp -implicitDefEqProofs only [↓dn_den, ↓dn_loc, ↓dn_k, ↓dn_add, ↓dn_sub, ↓dn_mul, ↓dn_div, ↓dn_rem, ↓dn_bop, ↓dn_ladd, ↓dn_lsub, ↓dn_lmul, ↓dn_ldiv, ↓dn_lrem, ↓dn_land, ↓dn_l2i, ↓dn_neg, ↓dn_get, ↓dn_fix, ↓dn_ald, ↓dn_gld, ↓dn_yld, ↓dn_len, ↓dn_gln, ↓dn_cc, ↓dn_cb, ↓dn_and, ↓dn_or, ↓dn_not, ↓dn_cite, ↓dn_ec, ↓dn_ei, ↓dn_skip, ↓dn_seq, ↓dn_set, ↓dn_inc, ↓dn_putf, ↓dn_putz, ↓dn_ast, ↓dn_exp, ↓dn_if, ↓dn_ret, ↓dn_retz, ↓dn_retv, ↓dn_brk, ↓dn_cont, ↓dn_cs, ↓dn_sw, ↓dn_pop32, ↓dn_pop64, ↓dn_aop, ↓dn_call, ↓dn_max, ↓dn_min, ↓dn_acp, ↓dn_i2l, ↓dn_args0, ↓dn_args1, og_pad, og_ent, og_rlt, og_rle, og_rgt, og_rge, og_req, og_rne, og_padd, og_psub, og_pmul, List.getD_cons_zero, List.getD_cons_succ, List.set_cons_zero, List.set_cons_succ, List.length_cons, List.length_nil, List.cons_append, List.nil_append, List.replicate, List.append_nil, Nat.reduceAdd, Nat.reduceSub, Nat.reduceEqDiff, if_true, if_false, reduceIte, Int.reduceAdd, Int.reduceSub, Int.reduceMul, Int.reduceNeg, Int.reduceLT, Int.reduceLE, Int.cast_ofNat_Int, true_or, or_true, true_and, and_true, false_and, List.mem_cons, List.not_mem_nil, or_false, false_or, ne_eq]
      by_cases hp : (decide (B 0 2 ≤ 999) && sAll (sdP B) (sNp B)) = true
      · rw [if_pos hp]
        refine og_loop (sNg B) (fun i e2 h2 => h2 = h1 ∧ e2 = [y, (if sAll (sdG B) i = true then 1 else 0), (i : Int)]) ⟨rfl, rfl⟩ ?_
        rintro i e2 h2 hi ⟨rfl, rfl⟩
        simp -implicitDefEqProofs only [↓dn_den, ↓dn_loc, ↓dn_k, ↓dn_add, ↓dn_sub, ↓dn_mul, ↓dn_div, ↓dn_rem, ↓dn_bop, ↓dn_ladd, ↓dn_lsub, ↓dn_lmul, ↓dn_ldiv, ↓dn_lrem, ↓dn_land, ↓dn_l2i, ↓dn_neg, ↓dn_get, ↓dn_fix, ↓dn_ald, ↓dn_gld, ↓dn_yld, ↓dn_len, ↓dn_gln, ↓dn_cc, ↓dn_cb, ↓dn_and, ↓dn_or, ↓dn_not, ↓dn_cite, ↓dn_ec, ↓dn_ei, ↓dn_skip, ↓dn_seq, ↓dn_set, ↓dn_inc, ↓dn_putf, ↓dn_putz, ↓dn_ast, ↓dn_exp, ↓dn_if, ↓dn_ret, ↓dn_retz, ↓dn_retv, ↓dn_brk, ↓dn_cont, ↓dn_cs, ↓dn_sw, ↓dn_pop32, ↓dn_pop64, ↓dn_aop, ↓dn_call, ↓dn_max, ↓dn_min, ↓dn_acp, ↓dn_i2l, ↓dn_args0, ↓dn_args1, og_pad, og_ent, og_rlt, og_rle, og_rgt, og_rge, og_req, og_rne, og_padd, og_psub, og_pmul, List.getD_cons_zero, List.getD_cons_succ, List.set_cons_zero, List.set_cons_succ, List.length_cons, List.length_nil, List.cons_append, List.nil_append, List.replicate, List.append_nil, Nat.reduceAdd, Nat.reduceSub, Nat.reduceEqDiff, if_true, if_false, reduceIte, Int.reduceAdd, Int.reduceSub, Int.reduceMul, Int.reduceNeg, Int.reduceLT, Int.reduceLE, Int.cast_ofNat_Int, true_or, or_true, true_and, and_true, false_and, List.mem_cons, List.not_mem_nil, or_false, false_or, ne_eq, og_i32]
        rw [hy.1.1]
        by_cases hq : sAll (sdG B) i = true
        · rw [if_pos hq]
          refine ⟨fun _ => ⟨fun hlt => ?_, fun hge => ?_⟩, fun z => absurd z (by decide)⟩
          · have yp := hy.2.1 i (by omega) hlt
            rw [yp.2.1, yp.2.2.1]
            have fin : ∀ v : Int, v = (if sAll (sdG B) (i + 1) = true then 1 else 0) → (-2147483648 ≤ (i : Int) + 1 ∧ (i : Int) + 1 ≤ 2147483647) ∧ og_nx (sNg B) (fun i e1 h3 => h3 = h2 ∧ e1 = [y, (if sAll (sdG B) i = true then 1 else 0), (i : Int)]) i [y, v, (i : Int) + 1] h2 := fun v hv => ⟨by omega, og_nx_mk (by omega) ⟨rfl, by rw [hv]; simp⟩⟩
            have sf : sdG B i = true → (1 : Int) = (if sAll (sdG B) (i + 1) = true then 1 else 0) := fun z => by rw [sAll_s, hq, z]; rfl
            have nf : sdG B i = false → (0 : Int) = (if sAll (sdG B) (i + 1) = true then 1 else 0) := fun z => by rw [sAll_s, hq, z]; rfl
            refine ⟨by omega, by omega, fun a1 => ⟨by omega, by omega, fun a2 => ?_, fun a2 => fin _ (nf (by unfold sdG; simp [a2]))⟩, fun a1 => fin _ (nf (by unfold sdG; simp [a1]))⟩
            refine s_Yard_isSoundInside hy hB hlt ⟨fun a3 => fin _ (sf (by unfold sdG; simp [a1, a2, ite10 a3])), fun a3 => fin _ (nf (by unfold sdG; simp [ite00 a3]))⟩
          · have e : i = sNg B := by omega
            subst e
            exact ⟨_, by unfold sSound; rw [hp, hq]; rfl⟩
        · rw [if_neg hq]
          have hq : sAll (sdG B) i = false := by simpa using hq
          exact ⟨fun z => absurd (by trivial) z, fun _ => ⟨_, by unfold sSound; rw [fal hi hq, Bool.and_false]; rfl⟩⟩
      · rw [if_neg hp]
        refine og_loop 0 (fun i e1 h2 => h2 = h1 ∧ e1 = [y, 0, 0]) ⟨rfl, rfl⟩ ?_
        rintro i e2 h2 hi ⟨rfl, rfl⟩
        simp -implicitDefEqProofs only [↓dn_den, ↓dn_loc, ↓dn_k, ↓dn_add, ↓dn_sub, ↓dn_mul, ↓dn_div, ↓dn_rem, ↓dn_bop, ↓dn_ladd, ↓dn_lsub, ↓dn_lmul, ↓dn_ldiv, ↓dn_lrem, ↓dn_land, ↓dn_l2i, ↓dn_neg, ↓dn_get, ↓dn_fix, ↓dn_ald, ↓dn_gld, ↓dn_yld, ↓dn_len, ↓dn_gln, ↓dn_cc, ↓dn_cb, ↓dn_and, ↓dn_or, ↓dn_not, ↓dn_cite, ↓dn_ec, ↓dn_ei, ↓dn_skip, ↓dn_seq, ↓dn_set, ↓dn_inc, ↓dn_putf, ↓dn_putz, ↓dn_ast, ↓dn_exp, ↓dn_if, ↓dn_ret, ↓dn_retz, ↓dn_retv, ↓dn_brk, ↓dn_cont, ↓dn_cs, ↓dn_sw, ↓dn_pop32, ↓dn_pop64, ↓dn_aop, ↓dn_call, ↓dn_max, ↓dn_min, ↓dn_acp, ↓dn_i2l, ↓dn_args0, ↓dn_args1, og_pad, og_ent, og_rlt, og_rle, og_rgt, og_rge, og_req, og_rne, og_padd, og_psub, og_pmul, List.getD_cons_zero, List.getD_cons_succ, List.set_cons_zero, List.set_cons_succ, List.length_cons, List.length_nil, List.cons_append, List.nil_append, List.replicate, List.append_nil, Nat.reduceAdd, Nat.reduceSub, Nat.reduceEqDiff, if_true, if_false, reduceIte, Int.reduceAdd, Int.reduceSub, Int.reduceMul, Int.reduceNeg, Int.reduceLT, Int.reduceLE, Int.cast_ofNat_Int, true_or, or_true, true_and, and_true, false_and, List.mem_cons, List.not_mem_nil, or_false, false_or, ne_eq]
        have hp : (decide (B 0 2 ≤ 999) && sAll (sdP B) (sNp B)) = false := by simpa using hp
        exact ⟨fun z => absurd (by trivial) z, fun _ => ⟨_, by unfold sSound; rw [hp, Bool.false_and]; rfl⟩⟩
    · rintro e2 h2 ⟨rfl, c2', rfl⟩
      simp -implicitDefEqProofs only [↓dn_den, ↓dn_loc, ↓dn_k, ↓dn_add, ↓dn_sub, ↓dn_mul, ↓dn_div, ↓dn_rem, ↓dn_bop, ↓dn_ladd, ↓dn_lsub, ↓dn_lmul, ↓dn_ldiv, ↓dn_lrem, ↓dn_land, ↓dn_l2i, ↓dn_neg, ↓dn_get, ↓dn_fix, ↓dn_ald, ↓dn_gld, ↓dn_yld, ↓dn_len, ↓dn_gln, ↓dn_cc, ↓dn_cb, ↓dn_and, ↓dn_or, ↓dn_not, ↓dn_cite, ↓dn_ec, ↓dn_ei, ↓dn_skip, ↓dn_seq, ↓dn_set, ↓dn_inc, ↓dn_putf, ↓dn_putz, ↓dn_ast, ↓dn_exp, ↓dn_if, ↓dn_ret, ↓dn_retz, ↓dn_retv, ↓dn_brk, ↓dn_cont, ↓dn_cs, ↓dn_sw, ↓dn_pop32, ↓dn_pop64, ↓dn_aop, ↓dn_call, ↓dn_max, ↓dn_min, ↓dn_acp, ↓dn_i2l, ↓dn_args0, ↓dn_args1, og_pad, og_ent, og_rlt, og_rle, og_rgt, og_rge, og_req, og_rne, og_padd, og_psub, og_pmul, List.getD_cons_zero, List.getD_cons_succ, List.set_cons_zero, List.set_cons_succ, List.length_cons, List.length_nil, List.cons_append, List.nil_append, List.replicate, List.append_nil, Nat.reduceAdd, Nat.reduceSub, Nat.reduceEqDiff, if_true, if_false, reduceIte, Int.reduceAdd, Int.reduceSub, Int.reduceMul, Int.reduceNeg, Int.reduceLT, Int.reduceLE, Int.cast_ofNat_Int, true_or, or_true, true_and, and_true, false_and, List.mem_cons, List.not_mem_nil, or_false, false_or, ne_eq]
      refine ⟨?_, hK⟩
      split
      · exact Or.inr rfl
      · exact Or.inl rfl
  · simp -implicitDefEqProofs only [↓dn_den, ↓dn_loc, ↓dn_k, ↓dn_add, ↓dn_sub, ↓dn_mul, ↓dn_div, ↓dn_rem, ↓dn_bop, ↓dn_ladd, ↓dn_lsub, ↓dn_lmul, ↓dn_ldiv, ↓dn_lrem, ↓dn_land, ↓dn_l2i, ↓dn_neg, ↓dn_get, ↓dn_fix, ↓dn_ald, ↓dn_gld, ↓dn_yld, ↓dn_len, ↓dn_gln, ↓dn_cc, ↓dn_cb, ↓dn_and, ↓dn_or, ↓dn_not, ↓dn_cite, ↓dn_ec, ↓dn_ei, ↓dn_skip, ↓dn_seq, ↓dn_set, ↓dn_inc, ↓dn_putf, ↓dn_putz, ↓dn_ast, ↓dn_exp, ↓dn_if, ↓dn_ret, ↓dn_retz, ↓dn_retv, ↓dn_brk, ↓dn_cont, ↓dn_cs, ↓dn_sw, ↓dn_pop32, ↓dn_pop64, ↓dn_aop, ↓dn_call, ↓dn_max, ↓dn_min, ↓dn_acp, ↓dn_i2l, ↓dn_args0, ↓dn_args1, og_pad, og_ent, og_rlt, og_rle, og_rgt, og_rge, og_req, og_rne, og_padd, og_psub, og_pmul, List.getD_cons_zero, List.getD_cons_succ, List.set_cons_zero, List.set_cons_succ, List.length_cons, List.length_nil, List.cons_append, List.nil_append, List.replicate, List.append_nil, Nat.reduceAdd, Nat.reduceSub, Nat.reduceEqDiff, if_true, if_false, reduceIte, Int.reduceAdd, Int.reduceSub, Int.reduceMul, Int.reduceNeg, Int.reduceLT, Int.reduceLE, Int.cast_ofNat_Int, true_or, or_true, true_and, and_true, false_and, List.mem_cons, List.not_mem_nil, or_false, false_or, ne_eq]
    refine og_loop (sNp B) (fun i e1 h1 => h1 = h ∧ e1 = [y, (if sAll (sdP B) i = true then 1 else 0), (i : Int)]) ⟨rfl, rfl⟩ ?_
    rintro i e1 h1 hi ⟨rfl, rfl⟩
    simp -implicitDefEqProofs only [↓dn_den, ↓dn_loc, ↓dn_k, ↓dn_add, ↓dn_sub, ↓dn_mul, ↓dn_div, ↓dn_rem, ↓dn_bop, ↓dn_ladd, ↓dn_lsub, ↓dn_lmul, ↓dn_ldiv, ↓dn_lrem, ↓dn_land, ↓dn_l2i, ↓dn_neg, ↓dn_get, ↓dn_fix, ↓dn_ald, ↓dn_gld, ↓dn_yld, ↓dn_len, ↓dn_gln, ↓dn_cc, ↓dn_cb, ↓dn_and, ↓dn_or, ↓dn_not, ↓dn_cite, ↓dn_ec, ↓dn_ei, ↓dn_skip, ↓dn_seq, ↓dn_set, ↓dn_inc, ↓dn_putf, ↓dn_putz, ↓dn_ast, ↓dn_exp, ↓dn_if, ↓dn_ret, ↓dn_retz, ↓dn_retv, ↓dn_brk, ↓dn_cont, ↓dn_cs, ↓dn_sw, ↓dn_pop32, ↓dn_pop64, ↓dn_aop, ↓dn_call, ↓dn_max, ↓dn_min, ↓dn_acp, ↓dn_i2l, ↓dn_args0, ↓dn_args1, og_pad, og_ent, og_rlt, og_rle, og_rgt, og_rge, og_req, og_rne, og_padd, og_psub, og_pmul, List.getD_cons_zero, List.getD_cons_succ, List.set_cons_zero, List.set_cons_succ, List.length_cons, List.length_nil, List.cons_append, List.nil_append, List.replicate, List.append_nil, Nat.reduceAdd, Nat.reduceSub, Nat.reduceEqDiff, if_true, if_false, reduceIte, Int.reduceAdd, Int.reduceSub, Int.reduceMul, Int.reduceNeg, Int.reduceLT, Int.reduceLE, Int.cast_ofNat_Int, true_or, or_true, true_and, and_true, false_and, List.mem_cons, List.not_mem_nil, or_false, false_or, ne_eq, og_i32]
    rw [hy.1.2.1]
    by_cases hq : sAll (sdP B) i = true
    · rw [if_pos hq]
      refine ⟨fun _ => ⟨fun hlt => ?_, fun hge => ?_⟩, fun z => absurd z (by decide)⟩
      · have yp := hy.2.2.1 i (by omega) hlt
        rw [yp.2.2.2, yp.2.1, yp.2.2.1]
        have fin : ∀ v : Int, v = (if sAll (sdP B) (i + 1) = true then 1 else 0) → (-2147483648 ≤ (i : Int) + 1 ∧ (i : Int) + 1 ≤ 2147483647) ∧ og_nx (sNp B) (fun i e1 h2 => h2 = h1 ∧ e1 = [y, (if sAll (sdP B) i = true then 1 else 0), (i : Int)]) i [y, v, (i : Int) + 1] h1 := fun v hv => ⟨by omega, og_nx_mk (by omega) ⟨rfl, by rw [hv]; simp⟩⟩
        have sf : sdP B i = true → (1 : Int) = (if sAll (sdP B) (i + 1) = true then 1 else 0) := fun z => by rw [sAll_s, hq, z]; rfl
        have nf : sdP B i = false → (0 : Int) = (if sAll (sdP B) (i + 1) = true then 1 else 0) := fun z => by rw [sAll_s, hq, z]; rfl
        refine ⟨by omega, by omega, fun a1 => ⟨by omega, by omega, fun a2 => ⟨by omega, by omega, fun a3 => fin _ (sf (by unfold sdP; simp [a1, a2, a3])), fun a3 => fin _ (nf (by unfold sdP; simp [a3]))⟩, fun a2 => fin _ (nf (by unfold sdP; simp [a2]))⟩, fun a1 => fin _ (nf (by unfold sdP; simp [a1]))⟩
      · have e : i = sNp B := by omega
        subst e
        exact ⟨_, by rw [hq, decide_eq_true a]; rfl⟩
    · rw [if_neg hq]
      have hq : sAll (sdP B) i = false := by simpa using hq
      exact ⟨fun z => absurd (by trivial) z, fun _ => ⟨_, by rw [fal hi hq, Bool.and_false]; rfl⟩⟩
  · simp -implicitDefEqProofs only [↓dn_den, ↓dn_loc, ↓dn_k, ↓dn_add, ↓dn_sub, ↓dn_mul, ↓dn_div, ↓dn_rem, ↓dn_bop, ↓dn_ladd, ↓dn_lsub, ↓dn_lmul, ↓dn_ldiv, ↓dn_lrem, ↓dn_land, ↓dn_l2i, ↓dn_neg, ↓dn_get, ↓dn_fix, ↓dn_ald, ↓dn_gld, ↓dn_yld, ↓dn_len, ↓dn_gln, ↓dn_cc, ↓dn_cb, ↓dn_and, ↓dn_or, ↓dn_not, ↓dn_cite, ↓dn_ec, ↓dn_ei, ↓dn_skip, ↓dn_seq, ↓dn_set, ↓dn_inc, ↓dn_putf, ↓dn_putz, ↓dn_ast, ↓dn_exp, ↓dn_if, ↓dn_ret, ↓dn_retz, ↓dn_retv, ↓dn_brk, ↓dn_cont, ↓dn_cs, ↓dn_sw, ↓dn_pop32, ↓dn_pop64, ↓dn_aop, ↓dn_call, ↓dn_max, ↓dn_min, ↓dn_acp, ↓dn_i2l, ↓dn_args0, ↓dn_args1, og_pad, og_ent, og_rlt, og_rle, og_rgt, og_rge, og_req, og_rne, og_padd, og_psub, og_pmul, List.getD_cons_zero, List.getD_cons_succ, List.set_cons_zero, List.set_cons_succ, List.length_cons, List.length_nil, List.cons_append, List.nil_append, List.replicate, List.append_nil, Nat.reduceAdd, Nat.reduceSub, Nat.reduceEqDiff, if_true, if_false, reduceIte, Int.reduceAdd, Int.reduceSub, Int.reduceMul, Int.reduceNeg, Int.reduceLT, Int.reduceLE, Int.cast_ofNat_Int, true_or, or_true, true_and, and_true, false_and, List.mem_cons, List.not_mem_nil, or_false, false_or, ne_eq]
    refine og_loop 0 (fun i e1 h1 => h1 = h ∧ e1 = [y, 0, 0]) ⟨rfl, rfl⟩ ?_
    rintro i e1 h1 hi ⟨rfl, rfl⟩
    simp -implicitDefEqProofs only [↓dn_den, ↓dn_loc, ↓dn_k, ↓dn_add, ↓dn_sub, ↓dn_mul, ↓dn_div, ↓dn_rem, ↓dn_bop, ↓dn_ladd, ↓dn_lsub, ↓dn_lmul, ↓dn_ldiv, ↓dn_lrem, ↓dn_land, ↓dn_l2i, ↓dn_neg, ↓dn_get, ↓dn_fix, ↓dn_ald, ↓dn_gld, ↓dn_yld, ↓dn_len, ↓dn_gln, ↓dn_cc, ↓dn_cb, ↓dn_and, ↓dn_or, ↓dn_not, ↓dn_cite, ↓dn_ec, ↓dn_ei, ↓dn_skip, ↓dn_seq, ↓dn_set, ↓dn_inc, ↓dn_putf, ↓dn_putz, ↓dn_ast, ↓dn_exp, ↓dn_if, ↓dn_ret, ↓dn_retz, ↓dn_retv, ↓dn_brk, ↓dn_cont, ↓dn_cs, ↓dn_sw, ↓dn_pop32, ↓dn_pop64, ↓dn_aop, ↓dn_call, ↓dn_max, ↓dn_min, ↓dn_acp, ↓dn_i2l, ↓dn_args0, ↓dn_args1, og_pad, og_ent, og_rlt, og_rle, og_rgt, og_rge, og_req, og_rne, og_padd, og_psub, og_pmul, List.getD_cons_zero, List.getD_cons_succ, List.set_cons_zero, List.set_cons_succ, List.length_cons, List.length_nil, List.cons_append, List.nil_append, List.replicate, List.append_nil, Nat.reduceAdd, Nat.reduceSub, Nat.reduceEqDiff, if_true, if_false, reduceIte, Int.reduceAdd, Int.reduceSub, Int.reduceMul, Int.reduceNeg, Int.reduceLT, Int.reduceLE, Int.cast_ofNat_Int, true_or, or_true, true_and, and_true, false_and, List.mem_cons, List.not_mem_nil, or_false, false_or, ne_eq]
    exact ⟨fun z => absurd (by trivial) z, fun _ => ⟨_, by rw [decide_eq_false a, Bool.false_and]; rfl⟩⟩
end
end
