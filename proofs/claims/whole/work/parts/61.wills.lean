section
-- how willing one was: the class
def sAll (f : Nat → Bool) : Nat → Bool
  | 0 => true
  | n + 1 => sAll f n && f n
theorem sAll_s (f : Nat → Bool) (n : Nat) : sAll f (n + 1) = (sAll f n && f n) := rfl
theorem sAll_iff {f : Nat → Bool} : ∀ n : Nat, sAll f n = true ↔ ∀ k, k < n → f k = true
  | 0 => ⟨fun _ k hk => by omega, fun _ => rfl⟩
  | n + 1 => by
    rw [sAll_s, Bool.and_eq_true, sAll_iff n]
    constructor
    · rintro ⟨a, b⟩ k hk
      by_cases e : k = n
      · subst e; exact b
      · exact a k (by omega)
    · exact fun a => ⟨fun k hk => a k (by omega), a n (by omega)⟩
theorem sAll_f {f : Nat → Bool} {n k : Nat} (hk : k < n) (h : f k = false) : sAll f n = false := by
  by_cases q : sAll f n = true
  · have := (sAll_iff n).mp q k hk
    rw [h] at this
    exact absurd this (by decide)
  · simpa using q
def isSn (h : Hp) (Sn : Int → Int) (R : Int) : Prop := h 10 4 = R ∧ ∀ j, 0 ≤ j → j < 3 * R → h 11 j = Sn j
def isSm (h : Hp) (Sn : Int → Int) (R : Int) : Prop := h 1000 61 = R ∧ ∀ j, 0 ≤ j → j < 3 * R → h 1045 j = Sn j
def okS (A : Yd) (Sn : Int → Int) (R : Int) : Prop := (0 ≤ R ∧ R ≤ 16) ∧ ∀ k, 0 ≤ k → k < R → (0 ≤ Sn (3 * k) ∧ Sn (3 * k) ≤ 30) ∧ (0 ≤ Sn (3 * k + 1) ∧ Sn (3 * k + 1) < A 0 0) ∧ 0 ≤ Sn (3 * k + 2) ∧ Sn (3 * k + 2) ≤ 1
theorem okS_eq {A B : Yd} {Sn : Int → Int} {R : Int} (h : okS A Sn R) (e : B 0 0 = A 0 0) : okS B Sn R := by
  unfold okS
  rw [e]
  exact h
def asF (Sn : Int → Int) (B : Yd) (m : Int) (k : Nat) : Bool := !(decide (Sn (3 * k) = m) && (sFill B (Sn (3 * k + 1)) != decide (Sn (3 * k + 2) = 1)))
def sAs (Sn : Int → Int) (B : Yd) (m R : Int) : Bool := sAll (asF Sn B m) R.toNat
def sAgr (P : Pr) (A : Yd) (Sn : Int → Int) (R p w : Int) : Bool := sAll (fun k => decide (A 0 2 + Sn (3 * k) ≤ 999)) R.toNat && sAll (fun m => sAs Sn (sIt P (sUp A 7 p w) m) m R) 31
def sWl (P : Pr) (A : Yd) (Sn : Int → Int) (R p : Int) : Nat := sSet (fun w => sAgr P A Sn R p w) 10
def sWills (P : Pr) (A : Yd) (Sn : Int → Int) (R p : Int) : Int := if (0 ≤ p ∧ p < A 0 1) ∧ sLive A p = true then (sWl P A Sn R p : Int) else -1
def sMx (Sn : Int → Int) : Nat → Int
  | 0 => 0
  | k + 1 => max (sMx Sn k) (Sn (3 * k))
theorem sMx_s (Sn : Int → Int) (k : Nat) : sMx Sn (k + 1) = max (sMx Sn k) (Sn (3 * k)) := rfl
theorem sMx_rg {Sn : Int → Int} : ∀ n : Nat, (∀ k : Nat, k < n → Sn (3 * k) ≤ 30) → (0 ≤ sMx Sn n ∧ sMx Sn n ≤ 30) ∧ ∀ k : Nat, k < n → Sn (3 * k) ≤ sMx Sn n
  | 0, _ => ⟨⟨Int.le_refl _, show (0 : Int) ≤ 30 by decide⟩, fun k hk => by omega⟩
  | n + 1, h => by
    have ih := sMx_rg n (fun k hk => h k (by omega))
    have hn := h n (by omega)
    rw [sMx_s]
    refine ⟨by omega, fun k hk => ?_⟩
    by_cases e : k = n
    · subst e; omega
    · have := ih.2 k (by omega); omega
theorem sMx_at {Sn : Int → Int} : ∀ n : Nat, sMx Sn n = 0 ∨ ∃ k : Nat, k < n ∧ sMx Sn n = Sn (3 * k)
  | 0 => Or.inl rfl
  | n + 1 => by
    rw [sMx_s]
    by_cases e : sMx Sn n ≤ Sn (3 * n)
    · exact Or.inr ⟨n, by omega, by omega⟩
    · rcases sMx_at (Sn := Sn) n with z | ⟨k, hk, z⟩
      · exact Or.inl (by omega)
      · exact Or.inr ⟨k, by omega, by omega⟩
section
variable {h h0 : Hp} {A B : Yd} {P : Pr} {Sn : Int → Int} {R : Int} {K : Int → Hp → Prop}
theorem s_Out_isAsSeen {m : Int} (hS : isSn h Sn R) (hk : okS B Sn R) (hy : isY h 110 B) (ho : okY B) (hK : K (if sAs Sn B m R = true then 1 else 0) h) : m_Outlook_isAsSeen [10, m] h K := by
  have h6 := ho.1
  have hkR := hk.1
  have yes : sAs Sn B m R = true → K 1 h := fun z => by rw [if_pos z] at hK; exact hK
  have no : sAs Sn B m R = false → K 0 h := fun z => by rw [if_neg (by rw [z]; decide)] at hK; exact hK
  unfold m_Outlook_isAsSeen
  simp -implicitDefEqProofs only [↓dn_den, ↓dn_loc, ↓dn_k, ↓dn_add, ↓dn_sub, ↓dn_mul, ↓dn_div, ↓dn_rem, ↓dn_bop, ↓dn_ladd, ↓dn_lsub, ↓dn_lmul, ↓dn_ldiv, ↓dn_lrem, ↓dn_land, ↓dn_l2i, ↓dn_neg, ↓dn_get, ↓dn_fix, ↓dn_ald, ↓dn_gld, ↓dn_yld, ↓dn_len, ↓dn_gln, ↓dn_cc, ↓dn_cb, ↓dn_and, ↓dn_or, ↓dn_not, ↓dn_cite, ↓dn_ec, ↓dn_ei, ↓dn_skip, ↓dn_seq, ↓dn_set, ↓dn_inc, ↓dn_putf, ↓dn_putz, ↓dn_ast, ↓dn_exp, ↓dn_if, ↓dn_ret, ↓dn_retz, ↓dn_retv, ↓dn_brk, ↓dn_cont, ↓dn_cs, ↓dn_sw, ↓dn_pop32, ↓dn_pop64, ↓dn_aop, ↓dn_call, ↓dn_max, ↓dn_min, ↓dn_acp, ↓dn_i2l, ↓dn_args0, ↓dn_args1, og_pad, og_ent, og_rlt, og_rle, og_rgt, og_rge, og_req, og_rne, og_padd, og_psub, og_pmul, List.getD_cons_zero, List.getD_cons_succ, List.set_cons_zero, List.set_cons_succ, List.length_cons, List.length_nil, List.cons_append, List.nil_append, List.replicate, List.append_nil, Nat.reduceAdd, Nat.reduceSub, Nat.reduceEqDiff, if_true, if_false, reduceIte, Int.reduceAdd, Int.reduceSub, Int.reduceMul, Int.reduceNeg, Int.reduceLT, Int.reduceLE, Int.cast_ofNat_Int, true_or, or_true, true_and, and_true, false_and, List.mem_cons, List.not_mem_nil, or_false, false_or, ne_eq]
  refine ⟨fun e1 h1 => h1 = h ∧ sAs Sn B m R = true, ?_, ?_⟩
  · simp -implicitDefEqProofs only [↓dn_den, ↓dn_loc, ↓dn_k, ↓dn_add, ↓dn_sub, ↓dn_mul, ↓dn_div, ↓dn_rem, ↓dn_bop, ↓dn_ladd, ↓dn_lsub, ↓dn_lmul, ↓dn_ldiv, ↓dn_lrem, ↓dn_land, ↓dn_l2i, ↓dn_neg, ↓dn_get, ↓dn_fix, ↓dn_ald, ↓dn_gld, ↓dn_yld, ↓dn_len, ↓dn_gln, ↓dn_cc, ↓dn_cb, ↓dn_and, ↓dn_or, ↓dn_not, ↓dn_cite, ↓dn_ec, ↓dn_ei, ↓dn_skip, ↓dn_seq, ↓dn_set, ↓dn_inc, ↓dn_putf, ↓dn_putz, ↓dn_ast, ↓dn_exp, ↓dn_if, ↓dn_ret, ↓dn_retz, ↓dn_retv, ↓dn_brk, ↓dn_cont, ↓dn_cs, ↓dn_sw, ↓dn_pop32, ↓dn_pop64, ↓dn_aop, ↓dn_call, ↓dn_max, ↓dn_min, ↓dn_acp, ↓dn_i2l, ↓dn_args0, ↓dn_args1, og_pad, og_ent, og_rlt, og_rle, og_rgt, og_rge, og_req, og_rne, og_padd, og_psub, og_pmul, List.getD_cons_zero, List.getD_cons_succ, List.set_cons_zero, List.set_cons_succ, List.length_cons, List.length_nil, List.cons_append, List.nil_append, List.replicate, List.append_nil, Nat.reduceAdd, Nat.reduceSub, Nat.reduceEqDiff, if_true, if_false, reduceIte, Int.reduceAdd, Int.reduceSub, Int.reduceMul, Int.reduceNeg, Int.reduceLT, Int.reduceLE, Int.cast_ofNat_Int, true_or, or_true, true_and, and_true, false_and, List.mem_cons, List.not_mem_nil, or_false, false_or, ne_eq]
    refine og_loop R.toNat (fun i e1 h1 => h1 = h ∧ (∃ c3, e1 = [10, m, (i : Int), c3]) ∧ sAll (asF Sn B m) i = true) ⟨rfl, ⟨0, rfl⟩, rfl⟩ ?_
    rintro i e1 h1 hi ⟨rfl, ⟨c3, rfl⟩, ha⟩
    simp -implicitDefEqProofs only [↓dn_den, ↓dn_loc, ↓dn_k, ↓dn_add, ↓dn_sub, ↓dn_mul, ↓dn_div, ↓dn_rem, ↓dn_bop, ↓dn_ladd, ↓dn_lsub, ↓dn_lmul, ↓dn_ldiv, ↓dn_lrem, ↓dn_land, ↓dn_l2i, ↓dn_neg, ↓dn_get, ↓dn_fix, ↓dn_ald, ↓dn_gld, ↓dn_yld, ↓dn_len, ↓dn_gln, ↓dn_cc, ↓dn_cb, ↓dn_and, ↓dn_or, ↓dn_not, ↓dn_cite, ↓dn_ec, ↓dn_ei, ↓dn_skip, ↓dn_seq, ↓dn_set, ↓dn_inc, ↓dn_putf, ↓dn_putz, ↓dn_ast, ↓dn_exp, ↓dn_if, ↓dn_ret, ↓dn_retz, ↓dn_retv, ↓dn_brk, ↓dn_cont, ↓dn_cs, ↓dn_sw, ↓dn_pop32, ↓dn_pop64, ↓dn_aop, ↓dn_call, ↓dn_max, ↓dn_min, ↓dn_acp, ↓dn_i2l, ↓dn_args0, ↓dn_args1, og_pad, og_ent, og_rlt, og_rle, og_rgt, og_rge, og_req, og_rne, og_padd, og_psub, og_pmul, List.getD_cons_zero, List.getD_cons_succ, List.set_cons_zero, List.set_cons_succ, List.length_cons, List.length_nil, List.cons_append, List.nil_append, List.replicate, List.append_nil, Nat.reduceAdd, Nat.reduceSub, Nat.reduceEqDiff, if_true, if_false, reduceIte, Int.reduceAdd, Int.reduceSub, Int.reduceMul, Int.reduceNeg, Int.reduceLT, Int.reduceLE, Int.cast_ofNat_Int, true_or, or_true, true_and, and_true, false_and, List.mem_cons, List.not_mem_nil, or_false, false_or, ne_eq, og_i32]
    rw [hS.1]
    refine ⟨fun hlt => ?_, fun hge => ?_⟩
    · have k1 := hk.2 i (by omega) hlt
      have y4 := (hy.2.1 _ k1.2.1.1 k1.2.1.2).2.2.2
      simp only [Int.reduceAdd] at y4
      rw [hS.2 (3 * i + 1) (by omega) (by omega), hS.2 (3 * i) (by omega) (by omega)]
      have nx : asF Sn B m i = true → (-2147483648 ≤ (i : Int) + 1 ∧ (i : Int) + 1 ≤ 2147483647) ∧ og_nx R.toNat (fun i e1 h2 => h2 = h1 ∧ (∃ c3, e1 = [10, m, (i : Int), c3]) ∧ sAll (asF Sn B m) i = true) i [10, m, (i : Int) + 1, Sn (3 * i + 1)] h1 := by
        intro z
        exact ⟨by omega, og_nx_mk (by omega) ⟨rfl, ⟨Sn (3 * i + 1), by simp⟩, by rw [sAll_s, ha, z]; rfl⟩⟩
      have st : asF Sn B m i = false → K 0 h1 := fun z => no (sAll_f (by omega) z)
      repeat (refine And.intro (by omega) ?_)
      refine ⟨fun em => ?_, fun em => nx (by unfold asF; simp [em])⟩
      refine s_Yard_isGrave ?_
      rw [hy.1.1]
      refine ⟨fun _ => ?_, fun z => absurd k1.2.1 (iteP0 z)⟩
      refine s_Yard_isFilled k1.2.1.1 (by omega) ?_
      rw [hS.2 (3 * i + 2) (by omega) (by omega)]
      repeat (refine And.intro (by omega) ?_)
      have e0 : asF Sn B m i = !(sFill B (Sn (3 * i + 1)) != decide (Sn (3 * i + 2) = 1)) := by unfold asF; simp [em]
      have ef : sFill B (Sn (3 * i + 1)) = decide (h1 (110 + 4) (Sn (3 * i + 1)) ≠ -1) := by unfold sFill; rw [← y4]; rfl
      by_cases hf : h1 (110 + 4) (Sn (3 * i + 1)) ≠ -1
      · rw [if_pos hf]
        rw [ef, decide_eq_true hf] at e0
        refine ⟨fun e1 => ⟨fun z => absurd (by trivial) z, fun _ => nx (by rw [e0, e1]; rfl)⟩, fun e1 => ⟨fun _ => ?_, fun z => absurd (by decide) z⟩⟩
        exact st (by rw [e0, decide_eq_false e1]; rfl)
      · rw [if_neg hf]
        rw [ef, decide_eq_false hf] at e0
        refine ⟨fun e1 => ⟨fun _ => ?_, fun z => absurd (by decide) z⟩, fun e1 => ⟨fun z => absurd (by trivial) z, fun _ => nx (by rw [e0, decide_eq_false e1]; rfl)⟩⟩
        exact st (by rw [e0, e1]; rfl)
    · have e : i = R.toNat := by omega
      subst e
      first | exact ⟨rfl, ha⟩ | exact ha
  · rintro e1 h1 ⟨rfl, hz⟩
    simp -implicitDefEqProofs only [↓dn_den, ↓dn_loc, ↓dn_k, ↓dn_add, ↓dn_sub, ↓dn_mul, ↓dn_div, ↓dn_rem, ↓dn_bop, ↓dn_ladd, ↓dn_lsub, ↓dn_lmul, ↓dn_ldiv, ↓dn_lrem, ↓dn_land, ↓dn_l2i, ↓dn_neg, ↓dn_get, ↓dn_fix, ↓dn_ald, ↓dn_gld, ↓dn_yld, ↓dn_len, ↓dn_gln, ↓dn_cc, ↓dn_cb, ↓dn_and, ↓dn_or, ↓dn_not, ↓dn_cite, ↓dn_ec, ↓dn_ei, ↓dn_skip, ↓dn_seq, ↓dn_set, ↓dn_inc, ↓dn_putf, ↓dn_putz, ↓dn_ast, ↓dn_exp, ↓dn_if, ↓dn_ret, ↓dn_retz, ↓dn_retv, ↓dn_brk, ↓dn_cont, ↓dn_cs, ↓dn_sw, ↓dn_pop32, ↓dn_pop64, ↓dn_aop, ↓dn_call, ↓dn_max, ↓dn_min, ↓dn_acp, ↓dn_i2l, ↓dn_args0, ↓dn_args1, og_pad, og_ent, og_rlt, og_rle, og_rgt, og_rge, og_req, og_rne, og_padd, og_psub, og_pmul, List.getD_cons_zero, List.getD_cons_succ, List.set_cons_zero, List.set_cons_succ, List.length_cons, List.length_nil, List.cons_append, List.nil_append, List.replicate, List.append_nil, Nat.reduceAdd, Nat.reduceSub, Nat.reduceEqDiff, if_true, if_false, reduceIte, Int.reduceAdd, Int.reduceSub, Int.reduceMul, Int.reduceNeg, Int.reduceLT, Int.reduceLE, Int.cast_ofNat_Int, true_or, or_true, true_and, and_true, false_and, List.mem_cons, List.not_mem_nil, or_false, false_or, ne_eq]
    exact yes hz
theorem s_Out_agrees {sc p w : Int} (hR : hasR h sc (A 0 1) P) (hP : okP P) (hs : 19 < sc) (hs2 : sc + 3 < 100) (hy : isY h 100 A) (ho : okY A) (hm0 : A 0 2 ≤ 999) (hS : isSn h Sn R) (hk : okS A Sn R) (hp : 0 ≤ p ∧ p < A 0 1) (hw : 0 ≤ w ∧ w ≤ 9)
    (hK : ∀ h', frY 110 h h' → K (if sAgr P A Sn R p w = true then 1 else 0) h') : m_Outlook_agrees [10, sc, 100, p, w] h K := by
  have h6 := ho.1
  have hkR := hk.1
  have mx := sMx_rg (Sn := Sn) R.toNat (fun k hk' => (hk.2 k (by omega) (by omega)).1.2)
  have mxa := sMx_at (Sn := Sn) R.toNat
  unfold m_Outlook_agrees
  simp -implicitDefEqProofs only [↓dn_den, ↓dn_loc, ↓dn_k, ↓dn_add, ↓dn_sub, ↓dn_mul, ↓dn_div, ↓dn_rem, ↓dn_bop, ↓dn_ladd, ↓dn_lsub, ↓dn_lmul, ↓dn_ldiv, ↓dn_lrem, ↓dn_land, ↓dn_l2i, ↓dn_neg, ↓dn_get, ↓dn_fix, ↓dn_ald, ↓dn_gld, ↓dn_yld, ↓dn_len, ↓dn_gln, ↓dn_cc, ↓dn_cb, ↓dn_and, ↓dn_or, ↓dn_not, ↓dn_cite, ↓dn_ec, ↓dn_ei, ↓dn_skip, ↓dn_seq, ↓dn_set, ↓dn_inc, ↓dn_putf, ↓dn_putz, ↓dn_ast, ↓dn_exp, ↓dn_if, ↓dn_ret, ↓dn_retz, ↓dn_retv, ↓dn_brk, ↓dn_cont, ↓dn_cs, ↓dn_sw, ↓dn_pop32, ↓dn_pop64, ↓dn_aop, ↓dn_call, ↓dn_max, ↓dn_min, ↓dn_acp, ↓dn_i2l, ↓dn_args0, ↓dn_args1, og_pad, og_ent, og_rlt, og_rle, og_rgt, og_rge, og_req, og_rne, og_padd, og_psub, og_pmul, List.getD_cons_zero, List.getD_cons_succ, List.set_cons_zero, List.set_cons_succ, List.length_cons, List.length_nil, List.cons_append, List.nil_append, List.replicate, List.append_nil, Nat.reduceAdd, Nat.reduceSub, Nat.reduceEqDiff, if_true, if_false, reduceIte, Int.reduceAdd, Int.reduceSub, Int.reduceMul, Int.reduceNeg, Int.reduceLT, Int.reduceLE, Int.cast_ofNat_Int, true_or, or_true, true_and, and_true, false_and, List.mem_cons, List.not_mem_nil, or_false, false_or, ne_eq]
  refine ⟨fun e1 h1 => h1 = h ∧ ∃ c6, e1 = [10, sc, 100, p, w, sMx Sn R.toNat, c6, 0], ?_, ?_⟩
  · simp -implicitDefEqProofs only [↓dn_den, ↓dn_loc, ↓dn_k, ↓dn_add, ↓dn_sub, ↓dn_mul, ↓dn_div, ↓dn_rem, ↓dn_bop, ↓dn_ladd, ↓dn_lsub, ↓dn_lmul, ↓dn_ldiv, ↓dn_lrem, ↓dn_land, ↓dn_l2i, ↓dn_neg, ↓dn_get, ↓dn_fix, ↓dn_ald, ↓dn_gld, ↓dn_yld, ↓dn_len, ↓dn_gln, ↓dn_cc, ↓dn_cb, ↓dn_and, ↓dn_or, ↓dn_not, ↓dn_cite, ↓dn_ec, ↓dn_ei, ↓dn_skip, ↓dn_seq, ↓dn_set, ↓dn_inc, ↓dn_putf, ↓dn_putz, ↓dn_ast, ↓dn_exp, ↓dn_if, ↓dn_ret, ↓dn_retz, ↓dn_retv, ↓dn_brk, ↓dn_cont, ↓dn_cs, ↓dn_sw, ↓dn_pop32, ↓dn_pop64, ↓dn_aop, ↓dn_call, ↓dn_max, ↓dn_min, ↓dn_acp, ↓dn_i2l, ↓dn_args0, ↓dn_args1, og_pad, og_ent, og_rlt, og_rle, og_rgt, og_rge, og_req, og_rne, og_padd, og_psub, og_pmul, List.getD_cons_zero, List.getD_cons_succ, List.set_cons_zero, List.set_cons_succ, List.length_cons, List.length_nil, List.cons_append, List.nil_append, List.replicate, List.append_nil, Nat.reduceAdd, Nat.reduceSub, Nat.reduceEqDiff, if_true, if_false, reduceIte, Int.reduceAdd, Int.reduceSub, Int.reduceMul, Int.reduceNeg, Int.reduceLT, Int.reduceLE, Int.cast_ofNat_Int, true_or, or_true, true_and, and_true, false_and, List.mem_cons, List.not_mem_nil, or_false, false_or, ne_eq]
    refine og_loop R.toNat (fun i e1 h1 => h1 = h ∧ e1 = [10, sc, 100, p, w, sMx Sn i, (i : Int), 0]) ⟨rfl, rfl⟩ ?_
    rintro i e1 h1 hi ⟨rfl, rfl⟩
    simp -implicitDefEqProofs only [↓dn_den, ↓dn_loc, ↓dn_k, ↓dn_add, ↓dn_sub, ↓dn_mul, ↓dn_div, ↓dn_rem, ↓dn_bop, ↓dn_ladd, ↓dn_lsub, ↓dn_lmul, ↓dn_ldiv, ↓dn_lrem, ↓dn_land, ↓dn_l2i, ↓dn_neg, ↓dn_get, ↓dn_fix, ↓dn_ald, ↓dn_gld, ↓dn_yld, ↓dn_len, ↓dn_gln, ↓dn_cc, ↓dn_cb, ↓dn_and, ↓dn_or, ↓dn_not, ↓dn_cite, ↓dn_ec, ↓dn_ei, ↓dn_skip, ↓dn_seq, ↓dn_set, ↓dn_inc, ↓dn_putf, ↓dn_putz, ↓dn_ast, ↓dn_exp, ↓dn_if, ↓dn_ret, ↓dn_retz, ↓dn_retv, ↓dn_brk, ↓dn_cont, ↓dn_cs, ↓dn_sw, ↓dn_pop32, ↓dn_pop64, ↓dn_aop, ↓dn_call, ↓dn_max, ↓dn_min, ↓dn_acp, ↓dn_i2l, ↓dn_args0, ↓dn_args1, og_pad, og_ent, og_rlt, og_rle, og_rgt, og_rge, og_req, og_rne, og_padd, og_psub, og_pmul, List.getD_cons_zero, List.getD_cons_succ, List.set_cons_zero, List.set_cons_succ, List.length_cons, List.length_nil, List.cons_append, List.nil_append, List.replicate, List.append_nil, Nat.reduceAdd, Nat.reduceSub, Nat.reduceEqDiff, if_true, if_false, reduceIte, Int.reduceAdd, Int.reduceSub, Int.reduceMul, Int.reduceNeg, Int.reduceLT, Int.reduceLE, Int.cast_ofNat_Int, true_or, or_true, true_and, and_true, false_and, List.mem_cons, List.not_mem_nil, or_false, false_or, ne_eq, og_i32]
    rw [hS.1]
    refine ⟨fun hlt => ?_, fun hge => ?_⟩
    · rw [hS.2 (3 * i) (by omega) (by omega)]
      repeat (refine And.intro (by omega) ?_)
      exact og_nx_mk (by omega) ⟨rfl, by rw [sMx_s]; simp⟩
    · have e : i = R.toNat := by omega
      subst e
      exact ⟨_, rfl⟩
  · rintro e1 h1 ⟨rfl, c6, rfl⟩
    simp -implicitDefEqProofs only [↓dn_den, ↓dn_loc, ↓dn_k, ↓dn_add, ↓dn_sub, ↓dn_mul, ↓dn_div, ↓dn_rem, ↓dn_bop, ↓dn_ladd, ↓dn_lsub, ↓dn_lmul, ↓dn_ldiv, ↓dn_lrem, ↓dn_land, ↓dn_l2i, ↓dn_neg, ↓dn_get, ↓dn_fix, ↓dn_ald, ↓dn_gld, ↓dn_yld, ↓dn_len, ↓dn_gln, ↓dn_cc, ↓dn_cb, ↓dn_and, ↓dn_or, ↓dn_not, ↓dn_cite, ↓dn_ec, ↓dn_ei, ↓dn_skip, ↓dn_seq, ↓dn_set, ↓dn_inc, ↓dn_putf, ↓dn_putz, ↓dn_ast, ↓dn_exp, ↓dn_if, ↓dn_ret, ↓dn_retz, ↓dn_retv, ↓dn_brk, ↓dn_cont, ↓dn_cs, ↓dn_sw, ↓dn_pop32, ↓dn_pop64, ↓dn_aop, ↓dn_call, ↓dn_max, ↓dn_min, ↓dn_acp, ↓dn_i2l, ↓dn_args0, ↓dn_args1, og_pad, og_ent, og_rlt, og_rle, og_rgt, og_rge, og_req, og_rne, og_padd, og_psub, og_pmul, List.getD_cons_zero, List.getD_cons_succ, List.set_cons_zero, List.set_cons_succ, List.length_cons, List.length_nil, List.cons_append, List.nil_append, List.replicate, List.append_nil, Nat.reduceAdd, Nat.reduceSub, Nat.reduceEqDiff, if_true, if_false, reduceIte, Int.reduceAdd, Int.reduceSub, Int.reduceMul, Int.reduceNeg, Int.reduceLT, Int.reduceLE, Int.cast_ofNat_Int, true_or, or_true, true_and, and_true, false_and, List.mem_cons, List.not_mem_nil, or_false, false_or, ne_eq, og_i32]
    rw [hy.1.2.2.1]
    refine ⟨by omega, fun hgt => ?_, fun hle => ?_⟩
    · have hf : sAgr P A Sn R p w = false := by
        unfold sAgr
        rcases mxa with z | ⟨k, hk', z⟩
        · omega
        · rw [sAll_f hk' (decide_eq_false (by omega))]; rfl
      have := hK h1 frY_rf
      rw [hf] at this
      exact this
    · have hin : sAll (fun k => decide (A 0 2 + Sn (3 * k) ≤ 999)) R.toNat = true := (sAll_iff _).mpr (fun k hk' => decide_eq_true (by have := mx.2 k hk'; omega))
      refine s_Yard_become (by omega) hy ho (fun h2 hy2 hf2 => ?_)
      repeat (refine And.intro (by omega) ?_)
      generalize hA' : sUp A 7 p w = A'
      have hoA' : okY A' := by rw [← hA']; exact okY_up7 ho hw
      have e02 : A' 0 2 = A 0 2 := by rw [← hA']; rfl
      have e00 : A' 0 0 = A 0 0 := by rw [← hA']; rfl
      have hyA : isY (og_up h2 117 p w) 110 A' := by
        have := isY_up (h := h2) (y := 110) (c := 7) (k := p) (v := w) (by decide) hy2
        simp only [Int.reduceAdd] at this
        rw [hA'] at this
        exact this
      have hfA : frY 110 h1 (og_up h2 117 p w) := by
        have := frY_up (h := h1) (h1 := h2) (y := 110) (c := 7) (k := p) (v := w) (by decide) hf2
        simpa only [Int.reduceAdd] using this
      have hSn : ∀ {h3 : Hp}, frY 110 h1 h3 → isSn h3 Sn R := fun hf => ⟨by rw [hf _ _ (by decide) (by decide) (by decide)]; exact hS.1, fun j a b => by rw [hf _ _ (by decide) (by decide) (by decide)]; exact hS.2 j a b⟩
      have agr : ∀ i : Nat, (i : Int) ≤ 30 → (sAll (fun m => sAs Sn (sIt P A' m) m R) (i + 1) = false ∨ (i : Int) = sMx Sn R.toNat) → sAgr P A Sn R p w = sAll (fun m => sAs Sn (sIt P A' m) m R) (i + 1) := by
        intro i hi hor
        unfold sAgr
        rw [hin, hA', Bool.true_and]
        by_cases hq : sAll (fun m => sAs Sn (sIt P A' m) m R) (i + 1) = true
        · rw [hq]
          rcases hor with z | z
          · rw [hq] at z; exact absurd z (by decide)
          refine (sAll_iff 31).mpr (fun m hm => ?_)
          by_cases hmi : m < i + 1
          · exact (sAll_iff _).mp hq m hmi
          · refine (sAll_iff _).mpr (fun k hk' => ?_)
            have := mx.2 k hk'
            have hne : ¬ Sn (3 * k) = m := by omega
            unfold asF
            simp [hne]
        · have hq : sAll (fun m => sAs Sn (sIt P A' m) m R) (i + 1) = false := by simpa using hq
          rw [hq]
          by_cases hq2 : sAll (fun m => sAs Sn (sIt P A' m) m R) 31 = true
          · have : sAll (fun m => sAs Sn (sIt P A' m) m R) (i + 1) = true := (sAll_iff _).mpr (fun m hm => (sAll_iff 31).mp hq2 m (by omega))
            rw [hq] at this; exact absurd this (by decide)
          · simpa using hq2
      refine s_Out_isAsSeen (hSn hfA) (okS_eq hk e00) hyA hoA' ?_
      refine ⟨fun e3 h3 => frY 110 h1 h3 ∧ e3.getD 6 0 = if sAgr P A Sn R p w = true then 1 else 0, ?_, ?_⟩
      · simp -implicitDefEqProofs only [↓dn_den, ↓dn_loc, ↓dn_k, ↓dn_add, ↓dn_sub, ↓dn_mul, ↓dn_div, ↓dn_rem, ↓dn_bop, ↓dn_ladd, ↓dn_lsub, ↓dn_lmul, ↓dn_ldiv, ↓dn_lrem, ↓dn_land, ↓dn_l2i, ↓dn_neg, ↓dn_get, ↓dn_fix, ↓dn_ald, ↓dn_gld, ↓dn_yld, ↓dn_len, ↓dn_gln, ↓dn_cc, ↓dn_cb, ↓dn_and, ↓dn_or, ↓dn_not, ↓dn_cite, ↓dn_ec, ↓dn_ei, ↓dn_skip, ↓dn_seq, ↓dn_set, ↓dn_inc, ↓dn_putf, ↓dn_putz, ↓dn_ast, ↓dn_exp, ↓dn_if, ↓dn_ret, ↓dn_retz, ↓dn_retv, ↓dn_brk, ↓dn_cont, ↓dn_cs, ↓dn_sw, ↓dn_pop32, ↓dn_pop64, ↓dn_aop, ↓dn_call, ↓dn_max, ↓dn_min, ↓dn_acp, ↓dn_i2l, ↓dn_args0, ↓dn_args1, og_pad, og_ent, og_rlt, og_rle, og_rgt, og_rge, og_req, og_rne, og_padd, og_psub, og_pmul, List.getD_cons_zero, List.getD_cons_succ, List.set_cons_zero, List.set_cons_succ, List.length_cons, List.length_nil, List.cons_append, List.nil_append, List.replicate, List.append_nil, Nat.reduceAdd, Nat.reduceSub, Nat.reduceEqDiff, if_true, if_false, reduceIte, Int.reduceAdd, Int.reduceSub, Int.reduceMul, Int.reduceNeg, Int.reduceLT, Int.reduceLE, Int.cast_ofNat_Int, true_or, or_true, true_and, and_true, false_and, List.mem_cons, List.not_mem_nil, or_false, false_or, ne_eq]
        refine og_loop (sMx Sn R.toNat).toNat (fun i e3 h3 => e3 = [10, sc, 100, p, w, sMx Sn R.toNat, (if sAll (fun m => sAs Sn (sIt P A' m) m R) (i + 1) = true then 1 else 0), (i : Int) + 1] ∧ isY h3 110 (sIt P A' i) ∧ frY 110 h1 h3) ⟨?_, hyA, hfA⟩ ?_
        · have : sAll (fun m => sAs Sn (sIt P A' m) m R) (0 + 1) = sAs Sn A' 0 R := by
            show (true && _) = _
            rw [Bool.true_and]
            rfl
          rw [this]
          rfl
        rintro i e3 h3 hi ⟨rfl, hy3, hf3⟩
        simp -implicitDefEqProofs only [↓dn_den, ↓dn_loc, ↓dn_k, ↓dn_add, ↓dn_sub, ↓dn_mul, ↓dn_div, ↓dn_rem, ↓dn_bop, ↓dn_ladd, ↓dn_lsub, ↓dn_lmul, ↓dn_ldiv, ↓dn_lrem, ↓dn_land, ↓dn_l2i, ↓dn_neg, ↓dn_get, ↓dn_fix, ↓dn_ald, ↓dn_gld, ↓dn_yld, ↓dn_len, ↓dn_gln, ↓dn_cc, ↓dn_cb, ↓dn_and, ↓dn_or, ↓dn_not, ↓dn_cite, ↓dn_ec, ↓dn_ei, ↓dn_skip, ↓dn_seq, ↓dn_set, ↓dn_inc, ↓dn_putf, ↓dn_putz, ↓dn_ast, ↓dn_exp, ↓dn_if, ↓dn_ret, ↓dn_retz, ↓dn_retv, ↓dn_brk, ↓dn_cont, ↓dn_cs, ↓dn_sw, ↓dn_pop32, ↓dn_pop64, ↓dn_aop, ↓dn_call, ↓dn_max, ↓dn_min, ↓dn_acp, ↓dn_i2l, ↓dn_args0, ↓dn_args1, og_pad, og_ent, og_rlt, og_rle, og_rgt, og_rge, og_req, og_rne, og_padd, og_psub, og_pmul, List.getD_cons_zero, List.getD_cons_succ, List.set_cons_zero, List.set_cons_succ, List.length_cons, List.length_nil, List.cons_append, List.nil_append, List.replicate, List.append_nil, Nat.reduceAdd, Nat.reduceSub, Nat.reduceEqDiff, if_true, if_false, reduceIte, Int.reduceAdd, Int.reduceSub, Int.reduceMul, Int.reduceNeg, Int.reduceLT, Int.reduceLE, Int.cast_ofNat_Int, true_or, or_true, true_and, and_true, false_and, List.mem_cons, List.not_mem_nil, or_false, false_or, ne_eq, og_i32]
        have s0 := sIt_0 (P := P) (A := A') i
        refine ⟨fun hle2 => ⟨fun hg => ?_, fun hg => ?_⟩, fun hgt => ?_⟩
        · have hg1 : sAll (fun m => sAs Sn (sIt P A' m) m R) (i + 1) = true := iteP1 hg
          refine s_Alm_pass (hasR_N (hasR_fr hR hf3 (by omega) (by omega)) (s0.2.1.trans (by rw [← hA']; rfl))) hP (by omega) (by omega) hy3 (okY_it hoA' i (by omega)) (by omega) (fun h4 hy4 hf4 => ?_)
          rw [← sIt_s] at hy4
          have s1 := sIt_0 (P := P) (A := A') (i + 1)
          have hf34 := frY_tr hf3 hf4
          refine s_Out_isAsSeen (hSn hf34) (okS_eq hk (s1.1.trans e00)) hy4 (okY_it hoA' (i + 1) (by omega)) ?_
          refine ⟨by omega, og_nx_mk (by omega) ⟨?_, hy4, hf34⟩⟩
          rw [sAll_s (fun m => sAs Sn (sIt P A' m) m R) (i + 1), hg1, Bool.true_and]
          simp
        · have hg0 : sAll (fun m => sAs Sn (sIt P A' m) m R) (i + 1) = false := by
            have := iteP0 hg
            simpa using this
          exact ⟨hf3, by rw [agr i (by omega) (Or.inl hg0)]⟩
        · exact ⟨hf3, by rw [agr i (by omega) (Or.inr (by omega))]⟩
      · rintro e3 h3 ⟨hf3, he⟩
        simp -implicitDefEqProofs only [↓dn_den, ↓dn_loc, ↓dn_k, ↓dn_add, ↓dn_sub, ↓dn_mul, ↓dn_div, ↓dn_rem, ↓dn_bop, ↓dn_ladd, ↓dn_lsub, ↓dn_lmul, ↓dn_ldiv, ↓dn_lrem, ↓dn_land, ↓dn_l2i, ↓dn_neg, ↓dn_get, ↓dn_fix, ↓dn_ald, ↓dn_gld, ↓dn_yld, ↓dn_len, ↓dn_gln, ↓dn_cc, ↓dn_cb, ↓dn_and, ↓dn_or, ↓dn_not, ↓dn_cite, ↓dn_ec, ↓dn_ei, ↓dn_skip, ↓dn_seq, ↓dn_set, ↓dn_inc, ↓dn_putf, ↓dn_putz, ↓dn_ast, ↓dn_exp, ↓dn_if, ↓dn_ret, ↓dn_retz, ↓dn_retv, ↓dn_brk, ↓dn_cont, ↓dn_cs, ↓dn_sw, ↓dn_pop32, ↓dn_pop64, ↓dn_aop, ↓dn_call, ↓dn_max, ↓dn_min, ↓dn_acp, ↓dn_i2l, ↓dn_args0, ↓dn_args1, og_pad, og_ent, og_rlt, og_rle, og_rgt, og_rge, og_req, og_rne, og_padd, og_psub, og_pmul, List.getD_cons_zero, List.getD_cons_succ, List.set_cons_zero, List.set_cons_succ, List.length_cons, List.length_nil, List.cons_append, List.nil_append, List.replicate, List.append_nil, Nat.reduceAdd, Nat.reduceSub, Nat.reduceEqDiff, if_true, if_false, reduceIte, Int.reduceAdd, Int.reduceSub, Int.reduceMul, Int.reduceNeg, Int.reduceLT, Int.reduceLE, Int.cast_ofNat_Int, true_or, or_true, true_and, and_true, false_and, List.mem_cons, List.not_mem_nil, or_false, false_or, ne_eq]
        rw [he]
        refine ⟨?_, hK h3 hf3⟩
        split
        · exact Or.inr rfl
        · exact Or.inl rfl
theorem s_Out_willsOf {sc p : Int} (hR : hasR h sc (A 0 1) P) (hP : okP P) (hs : 19 < sc) (hs2 : sc + 3 < 100) (hy : isY h 100 A) (ho : okY A) (hm0 : A 0 2 ≤ 999) (hS : isSn h Sn R) (hk : okS A Sn R) (hp : 0 ≤ p ∧ p < A 0 1)
    (hK : ∀ h', frY 110 h h' → K (sWl P A Sn R p : Int) h') : m_Outlook_willsOf [10, sc, 100, p] h K := by
  unfold m_Outlook_willsOf
  simp -implicitDefEqProofs only [↓dn_den, ↓dn_loc, ↓dn_k, ↓dn_add, ↓dn_sub, ↓dn_mul, ↓dn_div, ↓dn_rem, ↓dn_bop, ↓dn_ladd, ↓dn_lsub, ↓dn_lmul, ↓dn_ldiv, ↓dn_lrem, ↓dn_land, ↓dn_l2i, ↓dn_neg, ↓dn_get, ↓dn_fix, ↓dn_ald, ↓dn_gld, ↓dn_yld, ↓dn_len, ↓dn_gln, ↓dn_cc, ↓dn_cb, ↓dn_and, ↓dn_or, ↓dn_not, ↓dn_cite, ↓dn_ec, ↓dn_ei, ↓dn_skip, ↓dn_seq, ↓dn_set, ↓dn_inc, ↓dn_putf, ↓dn_putz, ↓dn_ast, ↓dn_exp, ↓dn_if, ↓dn_ret, ↓dn_retz, ↓dn_retv, ↓dn_brk, ↓dn_cont, ↓dn_cs, ↓dn_sw, ↓dn_pop32, ↓dn_pop64, ↓dn_aop, ↓dn_call, ↓dn_max, ↓dn_min, ↓dn_acp, ↓dn_i2l, ↓dn_args0, ↓dn_args1, og_pad, og_ent, og_rlt, og_rle, og_rgt, og_rge, og_req, og_rne, og_padd, og_psub, og_pmul, List.getD_cons_zero, List.getD_cons_succ, List.set_cons_zero, List.set_cons_succ, List.length_cons, List.length_nil, List.cons_append, List.nil_append, List.replicate, List.append_nil, Nat.reduceAdd, Nat.reduceSub, Nat.reduceEqDiff, if_true, if_false, reduceIte, Int.reduceAdd, Int.reduceSub, Int.reduceMul, Int.reduceNeg, Int.reduceLT, Int.reduceLE, Int.cast_ofNat_Int, true_or, or_true, true_and, and_true, false_and, List.mem_cons, List.not_mem_nil, or_false, false_or, ne_eq]
  refine ⟨fun e1 h1 => frY 110 h h1 ∧ ∃ c5, e1 = [10, sc, 100, p, (sWl P A Sn R p : Int), c5], ?_, ?_⟩
  · simp -implicitDefEqProofs only [↓dn_den, ↓dn_loc, ↓dn_k, ↓dn_add, ↓dn_sub, ↓dn_mul, ↓dn_div, ↓dn_rem, ↓dn_bop, ↓dn_ladd, ↓dn_lsub, ↓dn_lmul, ↓dn_ldiv, ↓dn_lrem, ↓dn_land, ↓dn_l2i, ↓dn_neg, ↓dn_get, ↓dn_fix, ↓dn_ald, ↓dn_gld, ↓dn_yld, ↓dn_len, ↓dn_gln, ↓dn_cc, ↓dn_cb, ↓dn_and, ↓dn_or, ↓dn_not, ↓dn_cite, ↓dn_ec, ↓dn_ei, ↓dn_skip, ↓dn_seq, ↓dn_set, ↓dn_inc, ↓dn_putf, ↓dn_putz, ↓dn_ast, ↓dn_exp, ↓dn_if, ↓dn_ret, ↓dn_retz, ↓dn_retv, ↓dn_brk, ↓dn_cont, ↓dn_cs, ↓dn_sw, ↓dn_pop32, ↓dn_pop64, ↓dn_aop, ↓dn_call, ↓dn_max, ↓dn_min, ↓dn_acp, ↓dn_i2l, ↓dn_args0, ↓dn_args1, og_pad, og_ent, og_rlt, og_rle, og_rgt, og_rge, og_req, og_rne, og_padd, og_psub, og_pmul, List.getD_cons_zero, List.getD_cons_succ, List.set_cons_zero, List.set_cons_succ, List.length_cons, List.length_nil, List.cons_append, List.nil_append, List.replicate, List.append_nil, Nat.reduceAdd, Nat.reduceSub, Nat.reduceEqDiff, if_true, if_false, reduceIte, Int.reduceAdd, Int.reduceSub, Int.reduceMul, Int.reduceNeg, Int.reduceLT, Int.reduceLE, Int.cast_ofNat_Int, true_or, or_true, true_and, and_true, false_and, List.mem_cons, List.not_mem_nil, or_false, false_or, ne_eq]
    refine og_loop 10 (fun i e1 h1 => frY 110 h h1 ∧ e1 = [10, sc, 100, p, (sSet (fun w => sAgr P A Sn R p w) i : Int), (i : Int)]) ⟨frY_rf, rfl⟩ ?_
    rintro i e1 h1 hi ⟨hf1, rfl⟩
    simp -implicitDefEqProofs only [↓dn_den, ↓dn_loc, ↓dn_k, ↓dn_add, ↓dn_sub, ↓dn_mul, ↓dn_div, ↓dn_rem, ↓dn_bop, ↓dn_ladd, ↓dn_lsub, ↓dn_lmul, ↓dn_ldiv, ↓dn_lrem, ↓dn_land, ↓dn_l2i, ↓dn_neg, ↓dn_get, ↓dn_fix, ↓dn_ald, ↓dn_gld, ↓dn_yld, ↓dn_len, ↓dn_gln, ↓dn_cc, ↓dn_cb, ↓dn_and, ↓dn_or, ↓dn_not, ↓dn_cite, ↓dn_ec, ↓dn_ei, ↓dn_skip, ↓dn_seq, ↓dn_set, ↓dn_inc, ↓dn_putf, ↓dn_putz, ↓dn_ast, ↓dn_exp, ↓dn_if, ↓dn_ret, ↓dn_retz, ↓dn_retv, ↓dn_brk, ↓dn_cont, ↓dn_cs, ↓dn_sw, ↓dn_pop32, ↓dn_pop64, ↓dn_aop, ↓dn_call, ↓dn_max, ↓dn_min, ↓dn_acp, ↓dn_i2l, ↓dn_args0, ↓dn_args1, og_pad, og_ent, og_rlt, og_rle, og_rgt, og_rge, og_req, og_rne, og_padd, og_psub, og_pmul, List.getD_cons_zero, List.getD_cons_succ, List.set_cons_zero, List.set_cons_succ, List.length_cons, List.length_nil, List.cons_append, List.nil_append, List.replicate, List.append_nil, Nat.reduceAdd, Nat.reduceSub, Nat.reduceEqDiff, if_true, if_false, reduceIte, Int.reduceAdd, Int.reduceSub, Int.reduceMul, Int.reduceNeg, Int.reduceLT, Int.reduceLE, Int.cast_ofNat_Int, true_or, or_true, true_and, and_true, false_and, List.mem_cons, List.not_mem_nil, or_false, false_or, ne_eq, og_i32]
    refine ⟨fun hle => ?_, fun hgt => ?_⟩
    · refine s_Out_agrees (hasR_fr hR hf1 (by omega) (by omega)) hP hs hs2 (isY_fr hy (fun i k a b => hf1 i k (by omega) (by omega) (by omega))) ho hm0 ⟨by rw [hf1 _ _ (by decide) (by decide) (by decide)]; exact hS.1, fun j a b => by rw [hf1 _ _ (by decide) (by decide) (by decide)]; exact hS.2 j a b⟩ hk hp (by omega) (fun h2 hf2 => ?_)
      refine ⟨fun hx => ?_, fun hx => ?_⟩
      · have hx := ite10 hx
        have hsl := sSet_le (f := fun w => sAgr P A Sn R p w) (n := i) (m := 10) (by omega) (by omega)
        rw [bt_or _ hsl i (by omega)]
        exact ⟨by omega, og_nx_mk (by omega) ⟨frY_tr hf1 hf2, by rw [sSet_s, if_pos hx]; simp⟩⟩
      · have hx := ite00 hx
        exact ⟨by omega, og_nx_mk (by omega) ⟨frY_tr hf1 hf2, by rw [sSet_s, hx]; simp⟩⟩
    · have e : i = 10 := by omega
      subst e
      exact ⟨hf1, _, rfl⟩
  · rintro e1 h1 ⟨hf1, c5, rfl⟩
    simp -implicitDefEqProofs only [↓dn_den, ↓dn_loc, ↓dn_k, ↓dn_add, ↓dn_sub, ↓dn_mul, ↓dn_div, ↓dn_rem, ↓dn_bop, ↓dn_ladd, ↓dn_lsub, ↓dn_lmul, ↓dn_ldiv, ↓dn_lrem, ↓dn_land, ↓dn_l2i, ↓dn_neg, ↓dn_get, ↓dn_fix, ↓dn_ald, ↓dn_gld, ↓dn_yld, ↓dn_len, ↓dn_gln, ↓dn_cc, ↓dn_cb, ↓dn_and, ↓dn_or, ↓dn_not, ↓dn_cite, ↓dn_ec, ↓dn_ei, ↓dn_skip, ↓dn_seq, ↓dn_set, ↓dn_inc, ↓dn_putf, ↓dn_putz, ↓dn_ast, ↓dn_exp, ↓dn_if, ↓dn_ret, ↓dn_retz, ↓dn_retv, ↓dn_brk, ↓dn_cont, ↓dn_cs, ↓dn_sw, ↓dn_pop32, ↓dn_pop64, ↓dn_aop, ↓dn_call, ↓dn_max, ↓dn_min, ↓dn_acp, ↓dn_i2l, ↓dn_args0, ↓dn_args1, og_pad, og_ent, og_rlt, og_rle, og_rgt, og_rge, og_req, og_rne, og_padd, og_psub, og_pmul, List.getD_cons_zero, List.getD_cons_succ, List.set_cons_zero, List.set_cons_succ, List.length_cons, List.length_nil, List.cons_append, List.nil_append, List.replicate, List.append_nil, Nat.reduceAdd, Nat.reduceSub, Nat.reduceEqDiff, if_true, if_false, reduceIte, Int.reduceAdd, Int.reduceSub, Int.reduceMul, Int.reduceNeg, Int.reduceLT, Int.reduceLE, Int.cast_ofNat_Int, true_or, or_true, true_and, and_true, false_and, List.mem_cons, List.not_mem_nil, or_false, false_or, ne_eq]
    exact hK h1 hf1
theorem c_wills {p : Int} (hc : isC h A P) (hP : okP P) (ho : okY A) (hm0 : A 0 2 ≤ 999) (hS : isSn h Sn R) (hk : okS A Sn R) (hK : ∀ h', frS h h' → K (sWills P A Sn R p) h') : m_OG_wills [0, p] h K := by
  have ht := hc.2.1
  unfold toldOK at ht
  unfold m_OG_wills
  simp -implicitDefEqProofs only [↓dn_den, ↓dn_loc, ↓dn_k, ↓dn_add, ↓dn_sub, ↓dn_mul, ↓dn_div, ↓dn_rem, ↓dn_bop, ↓dn_ladd, ↓dn_lsub, ↓dn_lmul, ↓dn_ldiv, ↓dn_lrem, ↓dn_land, ↓dn_l2i, ↓dn_neg, ↓dn_get, ↓dn_fix, ↓dn_ald, ↓dn_gld, ↓dn_yld, ↓dn_len, ↓dn_gln, ↓dn_cc, ↓dn_cb, ↓dn_and, ↓dn_or, ↓dn_not, ↓dn_cite, ↓dn_ec, ↓dn_ei, ↓dn_skip, ↓dn_seq, ↓dn_set, ↓dn_inc, ↓dn_putf, ↓dn_putz, ↓dn_ast, ↓dn_exp, ↓dn_if, ↓dn_ret, ↓dn_retz, ↓dn_retv, ↓dn_brk, ↓dn_cont, ↓dn_cs, ↓dn_sw, ↓dn_pop32, ↓dn_pop64, ↓dn_aop, ↓dn_call, ↓dn_max, ↓dn_min, ↓dn_acp, ↓dn_i2l, ↓dn_args0, ↓dn_args1, og_pad, og_ent, og_rlt, og_rle, og_rgt, og_rge, og_req, og_rne, og_padd, og_psub, og_pmul, List.getD_cons_zero, List.getD_cons_succ, List.set_cons_zero, List.set_cons_succ, List.length_cons, List.length_nil, List.cons_append, List.nil_append, List.replicate, List.append_nil, Nat.reduceAdd, Nat.reduceSub, Nat.reduceEqDiff, if_true, if_false, reduceIte, Int.reduceAdd, Int.reduceSub, Int.reduceMul, Int.reduceNeg, Int.reduceLT, Int.reduceLE, Int.cast_ofNat_Int, true_or, or_true, true_and, and_true, false_and, List.mem_cons, List.not_mem_nil, or_false, false_or, ne_eq]
  unfold sWills at hK
  refine c_lives hc.1 ho ⟨fun a => ?_, fun a => ?_⟩
  · have hl := iteP1 a
    rw [if_pos hl] at hK
    exact s_Out_willsOf hc.2.2 hP (by omega) (by omega) hc.1 ho hm0 hS hk hl.1 (fun h1 hf1 => hK h1 (frS_Y hf1))
  · rw [if_neg (iteP0 a)] at hK
    exact hK h frS_rf
end
end
