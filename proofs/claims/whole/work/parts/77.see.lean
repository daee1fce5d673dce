section
-- what is seen; letters
def seeF (A X : Yd) (k : Nat) : Bool := decide (X 2 (3 * k) ≤ 30) && decide (0 ≤ X 2 (3 * k + 1) ∧ X 2 (3 * k + 1) < A 0 0) && decide (X 2 (3 * k + 2) ≤ 1)
def see0 (X : Yd) : Bool := decide (1 ≤ X 0 1 / 3) && decide (X 0 1 / 3 ≤ 16) && decide (X 0 1 % 3 = 0)
def sSeeB (A X : Yd) : Bool := see0 X && sAll (seeF A X) (X 0 1 / 3).toNat
def sSee (X : Yd) : Yd := fun c k => if c = 0 ∧ k = 0 then X 0 1 / 3 else if c = 0 ∧ k = 1 then 0 else if c = 1 then X 2 k else X c k
theorem sSee_row {X : Yd} {c : Int} (h0 : c ≠ 0) (h1 : c ≠ 1) : sSee X c = X c := by
  funext k
  unfold sSee
  rw [if_neg (fun z => h0 z.1), if_neg (fun z => h0 z.1), if_neg h1]
theorem sSee_1 {X : Yd} : sSee X 1 = X 2 := by
  funext k
  unfold sSee
  rw [if_neg (by omega), if_neg (by omega), if_pos rfl]
theorem sSee_0 {X : Yd} {k : Int} (h0 : k ≠ 0) (h1 : k ≠ 1) : sSee X 0 k = X 0 k := by
  unfold sSee
  rw [if_neg (fun z => h0 z.2), if_neg (fun z => h1 z.2), if_neg (by decide)]
theorem sSee_00 {X : Yd} : sSee X 0 0 = X 0 1 / 3 := by unfold sSee; rw [if_pos ⟨rfl, rfl⟩]
theorem sSee_01 {X : Yd} : sSee X 0 1 = 0 := by unfold sSee; rw [if_neg (by omega), if_pos ⟨rfl, rfl⟩]
def dvN : Nat → Int → Int
  | 0, x => x
  | n + 1, x => dvN n x / 27
theorem dvN_s (n : Nat) (x : Int) : dvN (n + 1) x = dvN n x / 27 := rfl
def nLen (v : Int) : Nat := if v < 27 then 1 else if v < 729 then 2 else if v < 19683 then 3 else if v < 531441 then 4 else if v < 14348907 then 5 else 6
theorem nLen_rg (v : Int) : 1 ≤ nLen v ∧ nLen v ≤ 6 := by unfold nLen; repeat (first | split | omega)
theorem nPad_rg {v : Int} (h : 1 ≤ v ∧ v < 387420489) : 0 ≤ nPad v ∧ nPad v < 387420489 := by unfold nPad; repeat (first | split | omega)
theorem nLen_z {v : Int} (h : 1 ≤ v ∧ v < 387420489) : dvN (nLen v) v = 0 ∧ ∀ i, i < nLen v → 0 < dvN i v := by
  unfold nLen
  split
  · refine ⟨by simp only [dvN]; omega, fun i hi => ?_⟩
    have : i = 0 := by omega
    subst this; simp only [dvN]; omega
  split
  · refine ⟨by simp only [dvN]; omega, fun i hi => ?_⟩
    match i, hi with
    | 0, _ => simp only [dvN]; omega
    | 1, _ => simp only [dvN]; omega
  split
  · refine ⟨by simp only [dvN]; omega, fun i hi => ?_⟩
    match i, hi with
    | 0, _ => simp only [dvN]; omega
    | 1, _ => simp only [dvN]; omega
    | 2, _ => simp only [dvN]; omega
  split
  · refine ⟨by simp only [dvN]; omega, fun i hi => ?_⟩
    match i, hi with
    | 0, _ => simp only [dvN]; omega
    | 1, _ => simp only [dvN]; omega
    | 2, _ => simp only [dvN]; omega
    | 3, _ => simp only [dvN]; omega
  split
  · refine ⟨by simp only [dvN]; omega, fun i hi => ?_⟩
    match i, hi with
    | 0, _ => simp only [dvN]; omega
    | 1, _ => simp only [dvN]; omega
    | 2, _ => simp only [dvN]; omega
    | 3, _ => simp only [dvN]; omega
    | 4, _ => simp only [dvN]; omega
  · refine ⟨by simp only [dvN]; omega, fun i hi => ?_⟩
    match i, hi with
    | 0, _ => simp only [dvN]; omega
    | 1, _ => simp only [dvN]; omega
    | 2, _ => simp only [dvN]; omega
    | 3, _ => simp only [dvN]; omega
    | 4, _ => simp only [dvN]; omega
    | 5, _ => simp only [dvN]; omega
theorem letEq {v : Int} (h : 1 ≤ v ∧ v < 387420489) : ∀ k : Nat, k ≤ 5 → dvN (5 - k) (nPad v) % 27 = if nLen v ≤ k then 0 else dvN (nLen v - 1 - k) v % 27 := by
  intro k hk
  unfold nPad nLen
  split
  · match k, hk with
    | 0, _ | 1, _ | 2, _ | 3, _ | 4, _ | 5, _ => simp [dvN]; try omega
  split
  · match k, hk with
    | 0, _ | 1, _ | 2, _ | 3, _ | 4, _ | 5, _ => simp [dvN]; try omega
  split
  · match k, hk with
    | 0, _ | 1, _ | 2, _ | 3, _ | 4, _ | 5, _ => simp [dvN]; try omega
  split
  · match k, hk with
    | 0, _ | 1, _ | 2, _ | 3, _ | 4, _ | 5, _ => simp [dvN]; try omega
  split
  · match k, hk with
    | 0, _ | 1, _ | 2, _ | 3, _ | 4, _ | 5, _ => simp [dvN]; try omega
  · match k, hk with
    | 0, _ | 1, _ | 2, _ | 3, _ | 4, _ | 5, _ => simp [dvN]; try omega
theorem dvN_rg {v : Int} (h : 0 ≤ v ∧ v < 387420489) : ∀ n : Nat, 0 ≤ dvN n v ∧ dvN n v < 387420489
  | 0 => h
  | n + 1 => by
    have := dvN_rg h n
    rw [dvN_s]
    omega
def sLetter (A X : Yd) (kind w k : Int) : Int := if (0 ≤ k ∧ k ≤ 5) ∧ ((kind = 0 ∧ 0 ≤ w ∧ w < A 0 0) ∨ (kind = 1 ∧ 0 ≤ w ∧ w < A 0 1)) then dvN (5 - k.toNat) (nPad (X 5 (6 * kind + w))) % 27 else -1
section
variable {q h h0 h' : Hp} {A : Yd} {P : Pr} {U : List Yd} {X : Yd} {n M : Int} {K : Int → Hp → Prop}
theorem s_Tape_at {k : Int} (hb : h 1 1 ≤ 1600) (hK : K (if 0 ≤ k ∧ k < h 1 1 then h 2 k else -1) h) : m_Tape_at [1, k] h K := by
  unfold m_Tape_at
  simp -implicitDefEqProofs only [↓dn_den, ↓dn_loc, ↓dn_k, ↓dn_add, ↓dn_sub, ↓dn_mul, ↓dn_div, ↓dn_rem, ↓dn_bop, ↓dn_ladd, ↓dn_lsub, ↓dn_lmul, ↓dn_ldiv, ↓dn_lrem, ↓dn_land, ↓dn_l2i, ↓dn_neg, ↓dn_get, ↓dn_fix, ↓dn_ald, ↓dn_gld, ↓dn_yld, ↓dn_len, ↓dn_gln, ↓dn_cc, ↓dn_cb, ↓dn_and, ↓dn_or, ↓dn_not, ↓dn_cite, ↓dn_ec, ↓dn_ei, ↓dn_skip, ↓dn_seq, ↓dn_set, ↓dn_inc, ↓dn_putf, ↓dn_putz, ↓dn_ast, ↓dn_exp, ↓dn_if, ↓dn_ret, ↓dn_retz, ↓dn_retv, ↓dn_brk, ↓dn_cont, ↓dn_cs, ↓dn_sw, ↓dn_pop32, ↓dn_pop64, ↓dn_aop, ↓dn_call, ↓dn_max, ↓dn_min, ↓dn_acp, ↓dn_i2l, ↓dn_args0, ↓dn_args1, og_pad, og_ent, og_rlt, og_rle, og_rgt, og_rge, og_req, og_rne, og_padd, og_psub, og_pmul, List.getD_cons_zero, List.getD_cons_succ, List.set_cons_zero, List.set_cons_succ, List.length_cons, List.length_nil, List.cons_append, List.nil_append, List.replicate, List.append_nil, Nat.reduceAdd, Nat.reduceSub, Nat.reduceEqDiff, if_true, if_false, reduceIte, Int.reduceAdd, Int.reduceSub, Int.reduceMul, Int.reduceNeg, Int.reduceLT, Int.reduceLE, Int.cast_ofNat_Int, true_or, or_true, true_and, and_true, false_and, List.mem_cons, List.not_mem_nil, or_false, false_or, ne_eq]
  refine ⟨fun a => ⟨fun b => ⟨fun c => ?_, fun c => by omega⟩, fun b => ?_⟩, fun a => ?_⟩
  · rw [if_pos ⟨a, b⟩] at hK; exact ⟨a, c, hK⟩
  · rw [if_neg (by omega)] at hK; exact hK
  · rw [if_neg (by omega)] at hK; exact hK
theorem c_see (hn : n ≤ 1000000) (hr : relC q h A P U X) (hx : okX n A P U X) (hK0 : sSeeB A X = false → ∀ h', relC q h' A P U (sRf (sUp X 0 1 0) 1) → K (-1) h') (hK1 : sSeeB A X = true → ∀ h', relC q h' A P U (sSee X) → K (X 0 1 / 3) h') : m_OG_see [0] h K := by
  have h6 := hx.1.1.1
  have e0 := hr.2.2.1.2.2.1
  have x1 := hx.2.2.2.2.1
  unfold m_OG_see
  simp -implicitDefEqProofs only [↓dn_den, ↓dn_loc, ↓dn_k, ↓dn_add, ↓dn_sub, ↓dn_mul, ↓dn_div, ↓dn_rem, ↓dn_bop, ↓dn_ladd, ↓dn_lsub, ↓dn_lmul, ↓dn_ldiv, ↓dn_lrem, ↓dn_land, ↓dn_l2i, ↓dn_neg, ↓dn_get, ↓dn_fix, ↓dn_ald, ↓dn_gld, ↓dn_yld, ↓dn_len, ↓dn_gln, ↓dn_cc, ↓dn_cb, ↓dn_and, ↓dn_or, ↓dn_not, ↓dn_cite, ↓dn_ec, ↓dn_ei, ↓dn_skip, ↓dn_seq, ↓dn_set, ↓dn_inc, ↓dn_putf, ↓dn_putz, ↓dn_ast, ↓dn_exp, ↓dn_if, ↓dn_ret, ↓dn_retz, ↓dn_retv, ↓dn_brk, ↓dn_cont, ↓dn_cs, ↓dn_sw, ↓dn_pop32, ↓dn_pop64, ↓dn_aop, ↓dn_call, ↓dn_max, ↓dn_min, ↓dn_acp, ↓dn_i2l, ↓dn_args0, ↓dn_args1, og_pad, og_ent, og_rlt, og_rle, og_rgt, og_rge, og_req, og_rne, og_padd, og_psub, og_pmul, List.getD_cons_zero, List.getD_cons_succ, List.set_cons_zero, List.set_cons_succ, List.length_cons, List.length_nil, List.cons_append, List.nil_append, List.replicate, List.append_nil, Nat.reduceAdd, Nat.reduceSub, Nat.reduceEqDiff, if_true, if_false, reduceIte, Int.reduceAdd, Int.reduceSub, Int.reduceMul, Int.reduceNeg, Int.reduceLT, Int.reduceLE, Int.cast_ofNat_Int, true_or, or_true, true_and, and_true, false_and, List.mem_cons, List.not_mem_nil, or_false, false_or, ne_eq, og_i32]
  rw [e0.1]
  have ed : (X 0 1).tdiv 3 = X 0 1 / 3 := Int.tdiv_eq_ediv_of_nonneg x1.1.1
  have em : (X 0 1).tmod 3 = X 0 1 % 3 := Int.tmod_eq_emod_of_nonneg x1.1.1
  rw [ed, em]
  generalize hcn : X 0 1 / 3 = cn
  have at_ : ∀ {k : Int} {K : Int → Hp → Prop}, 0 ≤ k → k < X 0 1 → K (X 2 k) h → m_Tape_at [1, k] h K := fun a b hK => s_Tape_at (by rw [e0.1]; exact x1.1.2) (by rw [if_pos ⟨a, by rw [e0.1]; exact b⟩, e0.2 _ a b]; exact hK)
  have hb0 : see0 X = decide (1 ≤ cn ∧ cn ≤ 16 ∧ X 0 1 % 3 = 0) := by
    unfold see0
    rw [hcn]
    simp only [Bool.decide_and, Bool.and_assoc]
  have hsb : sSeeB A X = (see0 X && sAll (seeF A X) cn.toNat) := by unfold sSeeB; rw [hcn]
  repeat (refine And.intro (by omega) ?_)
  refine (fun (tail : ∀ (e1 : List Int) (h1 : Hp), (h1 = h ∧ ∃ c3, e1 = [0, cn, (if sSeeB A X = true then 1 else 0), c3]) → _) (y1 : see0 X = true → _) (y0 : see0 X = false → _) => ⟨fun a => ⟨fun b => ⟨by decide, fun c => ⟨_, y1 (by rw [hb0]; exact decide_eq_true ⟨a, b, c⟩), tail⟩, fun c => ⟨_, y0 (by rw [hb0]; exact decide_eq_false (fun z => c z.2.2)), tail⟩⟩, fun b => ⟨_, y0 (by rw [hb0]; exact decide_eq_false (fun z => b z.2.1)), tail⟩⟩, fun a => ⟨_, y0 (by rw [hb0]; exact decide_eq_false (fun z => a z.1)), tail⟩⟩) ?_ ?_ ?_
  · rintro e1 h1 ⟨rfl, c3, rfl⟩
    refine ⟨fun e2 h2 => (sSeeB A X = true ∧ e2 = [0, cn, 1, c3] ∧ h2 = og_up (og_cp h1 2 0 11 0 (3 * cn)) 10 4 cn) ∨ (sSeeB A X = false ∧ e2 = [0, cn, 0, c3] ∧ h2 = h1), ?_, ?_⟩
    · simp -implicitDefEqProofs only [↓dn_den, ↓dn_loc, ↓dn_k, ↓dn_add, ↓dn_sub, ↓dn_mul, ↓dn_div, ↓dn_rem, ↓dn_bop, ↓dn_ladd, ↓dn_lsub, ↓dn_lmul, ↓dn_ldiv, ↓dn_lrem, ↓dn_land, ↓dn_l2i, ↓dn_neg, ↓dn_get, ↓dn_fix, ↓dn_ald, ↓dn_gld, ↓dn_yld, ↓dn_len, ↓dn_gln, ↓dn_cc, ↓dn_cb, ↓dn_and, ↓dn_or, ↓dn_not, ↓dn_cite, ↓dn_ec, ↓dn_ei, ↓dn_skip, ↓dn_seq, ↓dn_set, ↓dn_inc, ↓dn_putf, ↓dn_putz, ↓dn_ast, ↓dn_exp, ↓dn_if, ↓dn_ret, ↓dn_retz, ↓dn_retv, ↓dn_brk, ↓dn_cont, ↓dn_cs, ↓dn_sw, ↓dn_pop32, ↓dn_pop64, ↓dn_aop, ↓dn_call, ↓dn_max, ↓dn_min, ↓dn_acp, ↓dn_i2l, ↓dn_args0, ↓dn_args1, og_pad, og_ent, og_rlt, og_rle, og_rgt, og_rge, og_req, og_rne, og_padd, og_psub, og_pmul, List.getD_cons_zero, List.getD_cons_succ, List.set_cons_zero, List.set_cons_succ, List.length_cons, List.length_nil, List.cons_append, List.nil_append, List.replicate, List.append_nil, Nat.reduceAdd, Nat.reduceSub, Nat.reduceEqDiff, if_true, if_false, reduceIte, Int.reduceAdd, Int.reduceSub, Int.reduceMul, Int.reduceNeg, Int.reduceLT, Int.reduceLE, Int.cast_ofNat_Int, true_or, or_true, true_and, and_true, false_and, List.mem_cons, List.not_mem_nil, or_false, false_or, ne_eq, og_i32]
      by_cases hs : sSeeB A X = true
      · rw [if_pos hs]
        have hs' := hs
        rw [hsb, Bool.and_eq_true, hb0, decide_eq_true_eq] at hs'
        refine ⟨fun _ => ?_, fun z => absurd z (by decide)⟩
        repeat (refine And.intro (by omega) ?_)
        first | exact Or.inl ⟨hs, rfl, rfl⟩ | exact Or.inl ⟨hs, rfl⟩ | exact Or.inl hs
      · rw [if_neg hs]
        exact ⟨fun z => absurd (by trivial) z, fun _ => by
          have hs' : sSeeB A X = false := by simpa using hs
          first | exact Or.inr ⟨hs', rfl, rfl⟩ | exact Or.inr ⟨hs', rfl⟩ | exact Or.inr hs'⟩
    · rintro e2 h2 (⟨hs, rfl, rfl⟩ | ⟨hs, rfl, rfl⟩)
      · simp -implicitDefEqProofs only [↓dn_den, ↓dn_loc, ↓dn_k, ↓dn_add, ↓dn_sub, ↓dn_mul, ↓dn_div, ↓dn_rem, ↓dn_bop, ↓dn_ladd, ↓dn_lsub, ↓dn_lmul, ↓dn_ldiv, ↓dn_lrem, ↓dn_land, ↓dn_l2i, ↓dn_neg, ↓dn_get, ↓dn_fix, ↓dn_ald, ↓dn_gld, ↓dn_yld, ↓dn_len, ↓dn_gln, ↓dn_cc, ↓dn_cb, ↓dn_and, ↓dn_or, ↓dn_not, ↓dn_cite, ↓dn_ec, ↓dn_ei, ↓dn_skip, ↓dn_seq, ↓dn_set, ↓dn_inc, ↓dn_putf, ↓dn_putz, ↓dn_ast, ↓dn_exp, ↓dn_if, ↓dn_ret, ↓dn_retz, ↓dn_retv, ↓dn_brk, ↓dn_cont, ↓dn_cs, ↓dn_sw, ↓dn_pop32, ↓dn_pop64, ↓dn_aop, ↓dn_call, ↓dn_max, ↓dn_min, ↓dn_acp, ↓dn_i2l, ↓dn_args0, ↓dn_args1, og_pad, og_ent, og_rlt, og_rle, og_rgt, og_rge, og_req, og_rne, og_padd, og_psub, og_pmul, List.getD_cons_zero, List.getD_cons_succ, List.set_cons_zero, List.set_cons_succ, List.length_cons, List.length_nil, List.cons_append, List.nil_append, List.replicate, List.append_nil, Nat.reduceAdd, Nat.reduceSub, Nat.reduceEqDiff, if_true, if_false, reduceIte, Int.reduceAdd, Int.reduceSub, Int.reduceMul, Int.reduceNeg, Int.reduceLT, Int.reduceLE, Int.cast_ofNat_Int, true_or, or_true, true_and, and_true, false_and, List.mem_cons, List.not_mem_nil, or_false, false_or, ne_eq, og_i32]
        refine ⟨fun _ => ?_, fun z => absurd z (by decide)⟩
        rw [hcn] at hK1
        have hs' := hs
        rw [hsb, Bool.and_eq_true, hb0, decide_eq_true_eq] at hs'
        have e3 : 3 * cn = X 0 1 := by omega
        obtain ⟨y, p, r, f⟩ := hr
        have hf : ∀ i k, ¬ (i = 11 ∨ (i = 10 ∧ k = 4) ∨ (i = 1 ∧ k = 1)) → og_up (og_up (og_cp h1 2 0 11 0 (3 * cn)) 10 4 cn) 1 1 0 i k = h1 i k := fun i k hi => by
          unfold og_up
          rw [if_neg (by omega), if_neg (by omega)]
          exact og_cp_i (by omega)
        refine hK1 hs _ ⟨isY_fr y (fun i k a b => hf i k (by omega)), pastC_fr p (fun i k hi => hf i k (by omega)), ?_, fun i k hi => (hf i k (by omega)).trans (f i k hi)⟩
        refine restC_new r (fun i k hi => hf i k (by omega)) (fun j => by rw [sSee_row (by decide) (by decide)]) ?_ ?_ ?_ ?_ ?_
        · rw [sSee_1, sSee_00, hcn]
          refine ⟨by rw [og_up_i (by decide), og_up_eq], fun j a b => ?_⟩
          rw [og_up_i (by decide), og_up_i (by decide), og_cp_in a (by omega)]
          exact e0.2 j a (by omega)
        · rw [sSee_01, og_up_eq]
          exact ⟨rfl, fun j a b => by omega⟩
        · intro k a b; rw [sSee_row (by decide) (by decide), hf _ _ (by omega)]; exact r.2.2.2.1 k a b
        · rw [sSee_0 (by decide) (by decide), sSee_0 (by decide) (by decide), sSee_0 (by decide) (by decide), hf _ _ (by omega), hf _ _ (by omega), hf _ _ (by omega)]; exact r.2.2.2.2.1
        · rw [sSee_row (c := 4) (by decide) (by decide), sSee_0 (by decide) (by decide)]; exact ⟨by rw [hf _ _ (by omega)]; exact r.2.2.2.2.2.1.1, fun j a b => by rw [hf _ _ (by omega)]; exact r.2.2.2.2.2.1.2 j a b⟩
      · simp -implicitDefEqProofs only [↓dn_den, ↓dn_loc, ↓dn_k, ↓dn_add, ↓dn_sub, ↓dn_mul, ↓dn_div, ↓dn_rem, ↓dn_bop, ↓dn_ladd, ↓dn_lsub, ↓dn_lmul, ↓dn_ldiv, ↓dn_lrem, ↓dn_land, ↓dn_l2i, ↓dn_neg, ↓dn_get, ↓dn_fix, ↓dn_ald, ↓dn_gld, ↓dn_yld, ↓dn_len, ↓dn_gln, ↓dn_cc, ↓dn_cb, ↓dn_and, ↓dn_or, ↓dn_not, ↓dn_cite, ↓dn_ec, ↓dn_ei, ↓dn_skip, ↓dn_seq, ↓dn_set, ↓dn_inc, ↓dn_putf, ↓dn_putz, ↓dn_ast, ↓dn_exp, ↓dn_if, ↓dn_ret, ↓dn_retz, ↓dn_retv, ↓dn_brk, ↓dn_cont, ↓dn_cs, ↓dn_sw, ↓dn_pop32, ↓dn_pop64, ↓dn_aop, ↓dn_call, ↓dn_max, ↓dn_min, ↓dn_acp, ↓dn_i2l, ↓dn_args0, ↓dn_args1, og_pad, og_ent, og_rlt, og_rle, og_rgt, og_rge, og_req, og_rne, og_padd, og_psub, og_pmul, List.getD_cons_zero, List.getD_cons_succ, List.set_cons_zero, List.set_cons_succ, List.length_cons, List.length_nil, List.cons_append, List.nil_append, List.replicate, List.append_nil, Nat.reduceAdd, Nat.reduceSub, Nat.reduceEqDiff, if_true, if_false, reduceIte, Int.reduceAdd, Int.reduceSub, Int.reduceMul, Int.reduceNeg, Int.reduceLT, Int.reduceLE, Int.cast_ofNat_Int, true_or, or_true, true_and, and_true, false_and, List.mem_cons, List.not_mem_nil, or_false, false_or, ne_eq, og_i32]
        refine ⟨fun z => absurd (by trivial) z, fun _ => ?_⟩
        have hr2 := relC_tape (v := 0) x1.1.1 hr
        have hx2 : okX n A P U (sUp X 0 1 0) := by
          obtain ⟨a, b, c, d, e, g, i, j, k⟩ := hx
          refine ⟨a, b, c, ?_, ?_, ?_, ?_, ?_, ?_⟩
          · simp (disch := decide) only [sUp_row, sUp_c, sUp_k, sUp_eq]; exact d
          · simp (disch := decide) only [sUp_row, sUp_c, sUp_k, sUp_eq]; exact ⟨by omega, fun j a b => by omega⟩
          · simp (disch := decide) only [sUp_row, sUp_c, sUp_k, sUp_eq]; exact g
          · simp (disch := decide) only [sUp_row, sUp_c, sUp_k, sUp_eq]; exact i
          · simp (disch := decide) only [sUp_row, sUp_c, sUp_k, sUp_eq]; exact j
          · simp (disch := decide) only [sUp_row, sUp_c, sUp_k, sUp_eq]; exact k
        exact c_refuse (by decide) hn hr2 hx2 (hK0 hs)
  · intro h0
    have h0' := h0
    rw [hb0, decide_eq_true_eq] at h0'
    simp -implicitDefEqProofs only [↓dn_den, ↓dn_loc, ↓dn_k, ↓dn_add, ↓dn_sub, ↓dn_mul, ↓dn_div, ↓dn_rem, ↓dn_bop, ↓dn_ladd, ↓dn_lsub, ↓dn_lmul, ↓dn_ldiv, ↓dn_lrem, ↓dn_land, ↓dn_l2i, ↓dn_neg, ↓dn_get, ↓dn_fix, ↓dn_ald, ↓dn_gld, ↓dn_yld, ↓dn_len, ↓dn_gln, ↓dn_cc, ↓dn_cb, ↓dn_and, ↓dn_or, ↓dn_not, ↓dn_cite, ↓dn_ec, ↓dn_ei, ↓dn_skip, ↓dn_seq, ↓dn_set, ↓dn_inc, ↓dn_putf, ↓dn_putz, ↓dn_ast, ↓dn_exp, ↓dn_if, ↓dn_ret, ↓dn_retz, ↓dn_retv, ↓dn_brk, ↓dn_cont, ↓dn_cs, ↓dn_sw, ↓dn_pop32, ↓dn_pop64, ↓dn_aop, ↓dn_call, ↓dn_max, ↓dn_min, ↓dn_acp, ↓dn_i2l, ↓dn_args0, ↓dn_args1, og_pad, og_ent, og_rlt, og_rle, og_rgt, og_rge, og_req, og_rne, og_padd, og_psub, og_pmul, List.getD_cons_zero, List.getD_cons_succ, List.set_cons_zero, List.set_cons_succ, List.length_cons, List.length_nil, List.cons_append, List.nil_append, List.replicate, List.append_nil, Nat.reduceAdd, Nat.reduceSub, Nat.reduceEqDiff, if_true, if_false, reduceIte, Int.reduceAdd, Int.reduceSub, Int.reduceMul, Int.reduceNeg, Int.reduceLT, Int.reduceLE, Int.cast_ofNat_Int, true_or, or_true, true_and, and_true, false_and, List.mem_cons, List.not_mem_nil, or_false, false_or, ne_eq]
    refine og_loop cn.toNat (fun i e1 h1 => h1 = h ∧ e1 = [0, cn, (if sAll (seeF A X) i = true then 1 else 0), (i : Int)]) ⟨rfl, rfl⟩ ?_
    rintro i e1 h1 hi ⟨rfl, rfl⟩
    simp -implicitDefEqProofs only [↓dn_den, ↓dn_loc, ↓dn_k, ↓dn_add, ↓dn_sub, ↓dn_mul, ↓dn_div, ↓dn_rem, ↓dn_bop, ↓dn_ladd, ↓dn_lsub, ↓dn_lmul, ↓dn_ldiv, ↓dn_lrem, ↓dn_land, ↓dn_l2i, ↓dn_neg, ↓dn_get, ↓dn_fix, ↓dn_ald, ↓dn_gld, ↓dn_yld, ↓dn_len, ↓dn_gln, ↓dn_cc, ↓dn_cb, ↓dn_and, ↓dn_or, ↓dn_not, ↓dn_cite, ↓dn_ec, ↓dn_ei, ↓dn_skip, ↓dn_seq, ↓dn_set, ↓dn_inc, ↓dn_putf, ↓dn_putz, ↓dn_ast, ↓dn_exp, ↓dn_if, ↓dn_ret, ↓dn_retz, ↓dn_retv, ↓dn_brk, ↓dn_cont, ↓dn_cs, ↓dn_sw, ↓dn_pop32, ↓dn_pop64, ↓dn_aop, ↓dn_call, ↓dn_max, ↓dn_min, ↓dn_acp, ↓dn_i2l, ↓dn_args0, ↓dn_args1, og_pad, og_ent, og_rlt, og_rle, og_rgt, og_rge, og_req, og_rne, og_padd, og_psub, og_pmul, List.getD_cons_zero, List.getD_cons_succ, List.set_cons_zero, List.set_cons_succ, List.length_cons, List.length_nil, List.cons_append, List.nil_append, List.replicate, List.append_nil, Nat.reduceAdd, Nat.reduceSub, Nat.reduceEqDiff, if_true, if_false, reduceIte, Int.reduceAdd, Int.reduceSub, Int.reduceMul, Int.reduceNeg, Int.reduceLT, Int.reduceLE, Int.cast_ofNat_Int, true_or, or_true, true_and, and_true, false_and, List.mem_cons, List.not_mem_nil, or_false, false_or, ne_eq, og_i32]
    have fall : ∀ i : Nat, i ≤ cn.toNat → sAll (seeF A X) i = false → sSeeB A X = false := by
      intro i hi hf
      rw [hsb]
      by_cases hq : sAll (seeF A X) cn.toNat = true
      · have : sAll (seeF A X) i = true := (sAll_iff _).mpr (fun m hm => (sAll_iff _).mp hq m (by omega))
        rw [hf] at this; exact absurd this (by decide)
      · simp [hq]
    by_cases hq : sAll (seeF A X) i = true
    · rw [if_pos hq]
      refine ⟨fun _ => ⟨fun hlt => ?_, fun hge => ?_⟩, fun z => absurd z (by decide)⟩
      · have fin : ∀ v : Int, v = (if sAll (seeF A X) (i + 1) = true then 1 else 0) → (-2147483648 ≤ (i : Int) + 1 ∧ (i : Int) + 1 ≤ 2147483647) ∧ og_nx cn.toNat (fun i e1 h2 => h2 = h1 ∧ e1 = [0, cn, (if sAll (seeF A X) i = true then 1 else 0), (i : Int)]) i [0, cn, v, (i : Int) + 1] h1 := fun v hv => ⟨by omega, og_nx_mk (by omega) ⟨rfl, by rw [hv]; simp⟩⟩
        have sf : seeF A X i = true → (1 : Int) = (if sAll (seeF A X) (i + 1) = true then 1 else 0) := fun z => by rw [sAll_s, hq, z]; rfl
        have nf : seeF A X i = false → (0 : Int) = (if sAll (seeF A X) (i + 1) = true then 1 else 0) := fun z => by rw [sAll_s, hq, z]; rfl
        have bi := x1.2 (3 * i) (by omega) (by omega)
        repeat (refine And.intro (by omega) ?_)
        refine at_ (by omega) (by omega) ⟨fun a1 => ?_, fun a1 => fin _ (nf (by unfold seeF; simp [a1]))⟩
        repeat (refine And.intro (by omega) ?_)
        refine at_ (by omega) (by omega) ?_
        refine s_Yard_isGrave ?_
        rw [hr.1.1.1]
        refine ⟨fun a2 => ?_, fun a2 => fin _ (nf (by unfold seeF; simp only [decide_eq_false (iteP0 a2)]; simp))⟩
        have a2 := iteP1 a2
        repeat (refine And.intro (by omega) ?_)
        refine at_ (by omega) (by omega) ⟨fun a3 => fin _ (sf (by unfold seeF; simp [a1, a2, a3])), fun a3 => fin _ (nf (by unfold seeF; simp [a3]))⟩
      · have e : i = cn.toNat := by omega
        subst e
        exact ⟨_, by rw [if_pos (by rw [hsb, h0, hq]; rfl)]⟩
    · rw [if_neg hq]
      exact ⟨fun z => absurd (by trivial) z, fun _ => ⟨_, by rw [if_neg (by rw [fall i hi (by simpa using hq)]; decide)]⟩⟩
  · intro h0
    simp -implicitDefEqProofs only [↓dn_den, ↓dn_loc, ↓dn_k, ↓dn_add, ↓dn_sub, ↓dn_mul, ↓dn_div, ↓dn_rem, ↓dn_bop, ↓dn_ladd, ↓dn_lsub, ↓dn_lmul, ↓dn_ldiv, ↓dn_lrem, ↓dn_land, ↓dn_l2i, ↓dn_neg, ↓dn_get, ↓dn_fix, ↓dn_ald, ↓dn_gld, ↓dn_yld, ↓dn_len, ↓dn_gln, ↓dn_cc, ↓dn_cb, ↓dn_and, ↓dn_or, ↓dn_not, ↓dn_cite, ↓dn_ec, ↓dn_ei, ↓dn_skip, ↓dn_seq, ↓dn_set, ↓dn_inc, ↓dn_putf, ↓dn_putz, ↓dn_ast, ↓dn_exp, ↓dn_if, ↓dn_ret, ↓dn_retz, ↓dn_retv, ↓dn_brk, ↓dn_cont, ↓dn_cs, ↓dn_sw, ↓dn_pop32, ↓dn_pop64, ↓dn_aop, ↓dn_call, ↓dn_max, ↓dn_min, ↓dn_acp, ↓dn_i2l, ↓dn_args0, ↓dn_args1, og_pad, og_ent, og_rlt, og_rle, og_rgt, og_rge, og_req, og_rne, og_padd, og_psub, og_pmul, List.getD_cons_zero, List.getD_cons_succ, List.set_cons_zero, List.set_cons_succ, List.length_cons, List.length_nil, List.cons_append, List.nil_append, List.replicate, List.append_nil, Nat.reduceAdd, Nat.reduceSub, Nat.reduceEqDiff, if_true, if_false, reduceIte, Int.reduceAdd, Int.reduceSub, Int.reduceMul, Int.reduceNeg, Int.reduceLT, Int.reduceLE, Int.cast_ofNat_Int, true_or, or_true, true_and, and_true, false_and, List.mem_cons, List.not_mem_nil, or_false, false_or, ne_eq]
    refine og_loop 0 (fun i e1 h1 => h1 = h ∧ e1 = [0, cn, 0, 0]) ⟨rfl, rfl⟩ ?_
    rintro i e1 h1 hi ⟨rfl, rfl⟩
    simp -implicitDefEqProofs only [↓dn_den, ↓dn_loc, ↓dn_k, ↓dn_add, ↓dn_sub, ↓dn_mul, ↓dn_div, ↓dn_rem, ↓dn_bop, ↓dn_ladd, ↓dn_lsub, ↓dn_lmul, ↓dn_ldiv, ↓dn_lrem, ↓dn_land, ↓dn_l2i, ↓dn_neg, ↓dn_get, ↓dn_fix, ↓dn_ald, ↓dn_gld, ↓dn_yld, ↓dn_len, ↓dn_gln, ↓dn_cc, ↓dn_cb, ↓dn_and, ↓dn_or, ↓dn_not, ↓dn_cite, ↓dn_ec, ↓dn_ei, ↓dn_skip, ↓dn_seq, ↓dn_set, ↓dn_inc, ↓dn_putf, ↓dn_putz, ↓dn_ast, ↓dn_exp, ↓dn_if, ↓dn_ret, ↓dn_retz, ↓dn_retv, ↓dn_brk, ↓dn_cont, ↓dn_cs, ↓dn_sw, ↓dn_pop32, ↓dn_pop64, ↓dn_aop, ↓dn_call, ↓dn_max, ↓dn_min, ↓dn_acp, ↓dn_i2l, ↓dn_args0, ↓dn_args1, og_pad, og_ent, og_rlt, og_rle, og_rgt, og_rge, og_req, og_rne, og_padd, og_psub, og_pmul, List.getD_cons_zero, List.getD_cons_succ, List.set_cons_zero, List.set_cons_succ, List.length_cons, List.length_nil, List.cons_append, List.nil_append, List.replicate, List.append_nil, Nat.reduceAdd, Nat.reduceSub, Nat.reduceEqDiff, if_true, if_false, reduceIte, Int.reduceAdd, Int.reduceSub, Int.reduceMul, Int.reduceNeg, Int.reduceLT, Int.reduceLE, Int.cast_ofNat_Int, true_or, or_true, true_and, and_true, false_and, List.mem_cons, List.not_mem_nil, or_false, false_or, ne_eq]
    exact ⟨fun z => absurd (by trivial) z, fun _ => ⟨_, by rw [if_neg (by rw [hsb, h0, Bool.false_and]; decide)]⟩⟩
end
end
