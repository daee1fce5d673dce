section
-- odds
def oSum (f : Nat → Int) : Nat → Int
  | 0 => 0
  | n + 1 => oSum f n + f n
theorem oSum_s (f : Nat → Int) (n : Nat) : oSum f (n + 1) = oSum f n + f n := rfl
theorem oSum_congr {f g : Nat → Int} : ∀ n : Nat, (∀ k, k < n → f k = g k) → oSum f n = oSum g n
  | 0, _ => rfl
  | n + 1, h => by rw [oSum_s, oSum_s, oSum_congr n (fun k hk => h k (by omega)), h n (by omega)]
theorem oSum_add {f : Nat → Int} {a : Nat} : ∀ b : Nat, oSum f (a + b) = oSum f a + oSum (fun t => f (a + t)) b
  | 0 => by show oSum f a = oSum f a + 0; omega
  | b + 1 => by rw [← Nat.add_assoc, oSum_s, oSum_add b, oSum_s]; omega
theorem oSum_mul {f : Nat → Int} {c : Int} : ∀ n, oSum (fun k => f k * c) n = oSum f n * c
  | 0 => by show (0 : Int) = 0 * c; simp
  | n + 1 => by rw [oSum_s, oSum_s, oSum_mul n, Int.add_mul]
theorem oSum_z {f : Nat → Int} {a : Nat} : ∀ b : Nat, (∀ k, a ≤ k → f k = 0) → oSum f (a + b) = oSum f a
  | 0, _ => rfl
  | b + 1, h => by rw [← Nat.add_assoc, oSum_s, oSum_z b h, h _ (by omega)]; omega
def oW (A : Yd) (D : Nat → Int) (s : Nat) : Nat → Int
  | 0 => 1
  | n + 1 => oW A D s n * (if sLive A (n : Int) = true then (if s.testBit n = true then D n else 100 - D n) else 1)
def oSub (A : Yd) (s : Nat) : Nat → Bool
  | 0 => true
  | n + 1 => oSub A s n && (!s.testBit n || sLive A (n : Int))
def oAll (A : Yd) : Nat → Int
  | 0 => 1
  | n + 1 => oAll A n * (if sLive A (n : Int) = true then 100 else 1)
theorem oW_s (A : Yd) (D : Nat → Int) (s n : Nat) : oW A D s (n + 1) = oW A D s n * (if sLive A (n : Int) = true then (if s.testBit n = true then D n else 100 - D n) else 1) := rfl
theorem oSub_s (A : Yd) (s n : Nat) : oSub A s (n + 1) = (oSub A s n && (!s.testBit n || sLive A (n : Int))) := rfl
theorem oAll_s (A : Yd) (n : Nat) : oAll A (n + 1) = oAll A n * (if sLive A (n : Int) = true then 100 else 1) := rfl
theorem oSub_at {A : Yd} {s : Nat} : ∀ n : Nat, oSub A s n = true ↔ ∀ p : Nat, p < n → s.testBit p = true → sLive A (p : Int) = true
  | 0 => ⟨fun _ p hp => by omega, fun _ => rfl⟩
  | n + 1 => by
    rw [oSub_s, Bool.and_eq_true, oSub_at n, Bool.or_eq_true]
    constructor
    · rintro ⟨a, b⟩ p hp hb
      by_cases e : p = n
      · subst e
        rcases b with b | b
        · rw [hb] at b; exact absurd b (by decide)
        · exact b
      · exact a p (by omega) hb
    · intro a
      refine ⟨fun p hp hb => a p (by omega) hb, ?_⟩
      by_cases hb : s.testBit n = true
      · exact Or.inr (a n (by omega) hb)
      · exact Or.inl (by simpa using hb)
theorem oSub_and {A : Yd} {s n : Nat} (hs : s < 2 ^ n) : oSub A s n = true ↔ s &&& sSet (sLive A) n = s := by
  rw [oSub_at]
  constructor
  · intro a
    apply Nat.eq_of_testBit_eq
    intro p
    rw [Nat.testBit_and, sSet_tb]
    by_cases hb : s.testBit p = true
    · by_cases hp : p < n
      · rw [hb, a p hp hb]; simp [hp]
      · have : s.testBit p = false := Nat.testBit_lt_two_pow (Nat.lt_of_lt_of_le hs (Nat.pow_le_pow_right (by decide) (by omega)))
        rw [this] at hb; exact absurd hb (by decide)
    · have hb : s.testBit p = false := by simpa using hb
      rw [hb]; rfl
  · intro e p hp hb
    have := congrArg (fun z => z.testBit p) e
    simp only [Nat.testBit_and, sSet_tb, hb] at this
    simpa [hp] using this
theorem oTot {A : Yd} {D : Nat → Int} : ∀ n : Nat, oSum (fun s => if oSub A s n = true then oW A D s n else 0) (2 ^ n) = oAll A n
  | 0 => by simp [oSum, oSub, oW, oAll]
  | n + 1 => by
    have ih := oTot (A := A) (D := D) n
    have e2 : 2 ^ (n + 1) = 2 ^ n + 2 ^ n := by rw [Nat.pow_succ]; omega
    have c1 : oSum (fun s => if oSub A s (n + 1) = true then oW A D s (n + 1) else 0) (2 ^ n) = oSum (fun s => if oSub A s n = true then oW A D s n else 0) (2 ^ n) * (if sLive A (n : Int) = true then 100 - D n else 1) := by
      rw [← oSum_mul]
      apply oSum_congr
      intro k hk
      have hb : k.testBit n = false := Nat.testBit_lt_two_pow hk
      simp only [oSub_s, oW_s, hb]
      cases oSub A k n <;> simp
    have c2 : oSum (fun t => if oSub A (2 ^ n + t) (n + 1) = true then oW A D (2 ^ n + t) (n + 1) else 0) (2 ^ n) = oSum (fun s => if oSub A s n = true then oW A D s n else 0) (2 ^ n) * (if sLive A (n : Int) = true then D n else 0) := by
      rw [← oSum_mul]
      apply oSum_congr
      intro k hk
      have hb : (2 ^ n + k).testBit n = true := by rw [Nat.testBit_two_pow_add_eq, Nat.testBit_lt_two_pow hk]; rfl
      have hw : ∀ m, m ≤ n → oW A D (2 ^ n + k) m = oW A D k m ∧ oSub A (2 ^ n + k) m = oSub A k m := by
        intro m
        induction m with
        | zero => exact fun _ => ⟨rfl, rfl⟩
        | succ m im =>
          intro hm
          have im := im (by omega)
          rw [oW_s, oW_s, oSub_s, oSub_s, im.1, im.2, Nat.testBit_two_pow_add_gt (by omega)]
          exact ⟨rfl, rfl⟩
      have hw := hw n (Nat.le_refl n)
      simp only [oSub_s, oW_s, hb, hw.1, hw.2]
      cases sLive A (n : Int) <;> cases oSub A k n <;> simp
    rw [e2, oSum_add, c1, c2, ih, oAll_s]
    by_cases hl : sLive A (n : Int) = true
    · rw [if_pos hl, if_pos hl, if_pos hl, ← Int.mul_add]
      congr 1
      omega
    · rw [if_neg hl, if_neg hl, if_neg hl]
      simp
theorem p100 : ∀ n, n < 9 → (100 : Int) ^ n ≤ 10000000000000000 := by decide
theorem oW_rg {A : Yd} {D : Nat → Int} {s : Nat} (hD : ∀ p, 0 ≤ D p ∧ D p ≤ 100) : ∀ n : Nat, 0 ≤ oW A D s n ∧ oW A D s n ≤ 100 ^ n
  | 0 => ⟨by show (0 : Int) ≤ 1; decide, by show (1 : Int) ≤ 100 ^ 0; decide⟩
  | n + 1 => by
    have ih := oW_rg (A := A) (s := s) hD n
    have hd := hD n
    obtain ⟨x, ex, h0, h1⟩ : ∃ x : Int, (if sLive A (n : Int) = true then (if s.testBit n = true then D n else 100 - D n) else 1) = x ∧ 0 ≤ x ∧ x ≤ 100 := ⟨_, rfl, by split; split <;> omega; omega, by split; split <;> omega; omega⟩
    rw [oW_s, ex, Int.pow_succ]
    exact ⟨Int.mul_nonneg ih.1 h0, Int.mul_le_mul ih.2 h1 h0 (Int.le_trans ih.1 ih.2)⟩
theorem oW_bd {A : Yd} {D : Nat → Int} {s n : Nat} (hD : ∀ p, 0 ≤ D p ∧ D p ≤ 100) (hn : n ≤ 8) : 0 ≤ oW A D s n ∧ oW A D s n ≤ 10000000000000000 := ⟨(oW_rg hD n).1, Int.le_trans (oW_rg hD n).2 (p100 n (by omega))⟩
theorem oAll_rg {A : Yd} : ∀ n : Nat, 0 ≤ oAll A n ∧ oAll A n ≤ 100 ^ n
  | 0 => ⟨by show (0 : Int) ≤ 1; decide, by show (1 : Int) ≤ 100 ^ 0; decide⟩
  | n + 1 => by
    have ih := oAll_rg (A := A) n
    obtain ⟨x, ex, h0, h1⟩ : ∃ x : Int, (if sLive A (n : Int) = true then (100 : Int) else 1) = x ∧ 0 ≤ x ∧ x ≤ 100 := ⟨_, rfl, by split <;> omega, by split <;> omega⟩
    rw [oAll_s, ex, Int.pow_succ]
    exact ⟨Int.mul_nonneg ih.1 h0, Int.mul_le_mul ih.2 h1 h0 (Int.le_trans ih.1 ih.2)⟩
theorem oAll_bd {A : Yd} {n : Nat} (hn : n ≤ 8) : 0 ≤ oAll A n ∧ oAll A n ≤ 10000000000000000 := ⟨(oAll_rg n).1, Int.le_trans (oAll_rg n).2 (p100 n (by omega))⟩
def sDie (A : Yd) (s : Nat) : Nat → Yd
  | 0 => A
  | n + 1 => if s.testBit n = true then sBury (sDie A s n) (n : Int) (sNext (sDie A s n) (n : Int) (sNg A)) 2 else sDie A s n
theorem sDie_s (A : Yd) (s n : Nat) : sDie A s (n + 1) = if s.testBit n = true then sBury (sDie A s n) (n : Int) (sNext (sDie A s n) (n : Int) (sNg A)) 2 else sDie A s n := rfl
theorem sameB_die {A : Yd} {s : Nat} : ∀ n : Nat, sameB A (sDie A s n)
  | 0 => sameB_rf
  | n + 1 => by
    rw [sDie_s]
    split
    · exact sameB_tr (sameB_die n) sameB_bury
    · exact sameB_die n
theorem okY_die {A : Yd} {s : Nat} (ho : okY A) : ∀ n : Nat, (n : Int) ≤ A 0 1 → okY (sDie A s n)
  | 0, _ => ho
  | n + 1, hn => by
    have ih := okY_die (s := s) ho n (by omega)
    have sb := sameB_die (A := A) (s := s) n
    rw [sDie_s]
    split
    · exact okY_bury ih (by omega) (by rw [sb.2.1]; omega)
    · exact ih
theorem sLive_bury_ne {A : Yd} {p g how q : Int} (h : q ≠ p) : sLive (sBury A p g how) q = sLive A q := by
  unfold sLive
  have : sBury A p g how 8 q = A 8 q := by
    unfold sBury
    rw [if_neg (fun z => h z.2), if_neg (by omega), if_neg (by omega), if_neg (by omega), if_neg (by omega), if_neg (by omega), if_neg (by omega)]
  rw [this]
theorem sDie_live {A : Yd} {s : Nat} {p : Int} : ∀ n : Nat, (n : Int) ≤ p → sLive (sDie A s n) p = sLive A p
  | 0, _ => rfl
  | n + 1, hn => by
    rw [sDie_s]
    split
    · rw [sLive_bury_ne (by omega)]; exact sDie_live n (by omega)
    · exact sDie_live n (by omega)
theorem okK_die {A : Yd} {s : Nat} (ho : okY A) (hk : okK A) : ∀ n : Nat, (n : Int) ≤ A 0 1 → (∀ p : Nat, p < n → s.testBit p = true → sLive A (p : Int) = true) → okK (sDie A s n)
  | 0, _, _ => hk
  | n + 1, hn, hs => by
    have ih := okK_die ho hk n (by omega) (fun p hp => hs p (by omega))
    have oi := okY_die (s := s) ho n (by omega)
    have sb := sameB_die (A := A) (s := s) n
    rw [sDie_s]
    split
    · rename_i hb
      exact okK_bury oi ih (by omega) (by rw [sb.2.1]; omega) (by rw [sDie_live n (by omega)]; exact hs n (by omega) hb)
    · exact ih
def sDs (P : Pr) (A : Yd) (p : Nat) : Int := sCut (sVal (P 8) A (p : Int) 0) 100
theorem sDs_rg {P : Pr} {A : Yd} (p : Nat) : 0 ≤ sDs P A p ∧ sDs P A p ≤ 100 := sCut_bd _ 100 (by decide)
def sOf (P : Pr) (A : Yd) (g : Int) (s : Nat) : Int := if oSub A s (sNp A) = true ∧ (g = -1 ∨ sFill (sPass P (sDie A s (sNp A))) g = true) then oW A (sDs P A) s (sNp A) else 0
def sOdds (P : Pr) (A : Yd) (g : Int) : Int := if A 0 2 < 999 ∧ (g = -1 ∨ (0 ≤ g ∧ g < A 0 0)) then oSum (sOf P A g) (2 ^ sNp A) else -1000000000000000
theorem sOf_rg {P : Pr} {A : Yd} {g : Int} (ho : okY A) (s : Nat) : 0 ≤ sOf P A g s ∧ sOf P A g s ≤ 10000000000000000 := by
  have h6 := ho.1
  unfold sOf
  split
  · exact oW_bd sDs_rg (by unfold sNp; omega)
  · exact ⟨by decide, by decide⟩
theorem sOf_sum {P : Pr} {A : Yd} {g : Int} (ho : okY A) : ∀ n : Nat, 0 ≤ oSum (sOf P A g) n ∧ oSum (sOf P A g) n ≤ 10000000000000000 * n
  | 0 => ⟨by show (0 : Int) ≤ 0; decide, by show (0 : Int) ≤ _; omega⟩
  | n + 1 => by
    have ih := sOf_sum (P := P) (g := g) ho n
    have := sOf_rg (P := P) (g := g) ho n
    rw [oSum_s]
    omega
theorem sOf_lv {P : Pr} {A : Yd} {g : Int} (ho : okY A) : oSum (sOf P A g) (2 ^ sNp A) = oSum (sOf P A g) (sSet (sLive A) (sNp A) + 1) := by
  have hl := sSet_lt (sLive A) (sNp A)
  have e : 2 ^ sNp A = (sSet (sLive A) (sNp A) + 1) + (2 ^ sNp A - (sSet (sLive A) (sNp A) + 1)) := by omega
  generalize 2 ^ sNp A - (sSet (sLive A) (sNp A) + 1) = b at e
  by_cases hb : b = 0
  · rw [e, hb]
  have key : ∀ c, c ≤ b → oSum (sOf P A g) (sSet (sLive A) (sNp A) + 1 + c) = oSum (sOf P A g) (sSet (sLive A) (sNp A) + 1) := by
    intro c
    induction c with
    | zero => exact fun _ => rfl
    | succ c ih =>
      intro hc
      rw [← Nat.add_assoc, oSum_s, ih (by omega)]
      have hz : sOf P A g (sSet (sLive A) (sNp A) + 1 + c) = 0 := by
        unfold sOf
        refine if_neg (fun z => ?_)
        have hs := (oSub_and (A := A) (n := sNp A) (by omega)).mp z.1
        have := Nat.and_le_right (n := sSet (sLive A) (sNp A) + 1 + c) (m := sSet (sLive A) (sNp A))
        rw [hs] at this
        omega
      rw [hz]
      omega
  rw [e]
  exact key b (Nat.le_refl b)
section
variable {h h0 : Hp} {A : Yd} {P : Pr} {D : Nat → Int} {K : Int → Hp → Prop}
theorem s_Out_drawsOf {s : Nat} (hy : isY h 100 A) (ho : okY A) (hs : s < 256) (hD : ∀ p, 0 ≤ D p ∧ D p ≤ 100) (hd : ∀ p : Nat, p < sNp A → sLive A p = true → h 14 p = D p) (hK : K (oW A D s (sNp A)) h) : m_Outlook_drawsOf [10, 100, (s : Int)] h K := by
  have h6 := ho.1
  have hnp : sNp A = (A 0 1).toNat := rfl
  unfold m_Outlook_drawsOf
  simp -implicitDefEqProofs only [↓dn_den, ↓dn_loc, ↓dn_k, ↓dn_add, ↓dn_sub, ↓dn_mul, ↓dn_div, ↓dn_rem, ↓dn_bop, ↓dn_ladd, ↓dn_lsub, ↓dn_lmul, ↓dn_ldiv, ↓dn_lrem, ↓dn_land, ↓dn_l2i, ↓dn_neg, ↓dn_get, ↓dn_fix, ↓dn_ald, ↓dn_gld, ↓dn_yld, ↓dn_len, ↓dn_gln, ↓dn_cc, ↓dn_cb, ↓dn_and, ↓dn_or, ↓dn_not, ↓dn_cite, ↓dn_ec, ↓dn_ei, ↓dn_skip, ↓dn_seq, ↓dn_set, ↓dn_inc, ↓dn_putf, ↓dn_putz, ↓dn_ast, ↓dn_exp, ↓dn_if, ↓dn_ret, ↓dn_retz, ↓dn_retv, ↓dn_brk, ↓dn_cont, ↓dn_cs, ↓dn_sw, ↓dn_pop32, ↓dn_pop64, ↓dn_aop, ↓dn_call, ↓dn_max, ↓dn_min, ↓dn_acp, ↓dn_i2l, ↓dn_args0, ↓dn_args1, og_pad, og_ent, og_rlt, og_rle, og_rgt, og_rge, og_req, og_rne, og_padd, og_psub, og_pmul, List.getD_cons_zero, List.getD_cons_succ, List.set_cons_zero, List.set_cons_succ, List.length_cons, List.length_nil, List.cons_append, List.nil_append, List.replicate, List.append_nil, Nat.reduceAdd, Nat.reduceSub, Nat.reduceEqDiff, if_true, if_false, reduceIte, Int.reduceAdd, Int.reduceSub, Int.reduceMul, Int.reduceNeg, Int.reduceLT, Int.reduceLE, Int.cast_ofNat_Int, true_or, or_true, true_and, and_true, false_and, List.mem_cons, List.not_mem_nil, or_false, false_or, ne_eq]
  refine ⟨fun e1 h1 => h1 = h ∧ ∃ c5, e1 = [10, 100, (s : Int), oW A D s (sNp A), 0, c5], ?_, ?_⟩
  · simp -implicitDefEqProofs only [↓dn_den, ↓dn_loc, ↓dn_k, ↓dn_add, ↓dn_sub, ↓dn_mul, ↓dn_div, ↓dn_rem, ↓dn_bop, ↓dn_ladd, ↓dn_lsub, ↓dn_lmul, ↓dn_ldiv, ↓dn_lrem, ↓dn_land, ↓dn_l2i, ↓dn_neg, ↓dn_get, ↓dn_fix, ↓dn_ald, ↓dn_gld, ↓dn_yld, ↓dn_len, ↓dn_gln, ↓dn_cc, ↓dn_cb, ↓dn_and, ↓dn_or, ↓dn_not, ↓dn_cite, ↓dn_ec, ↓dn_ei, ↓dn_skip, ↓dn_seq, ↓dn_set, ↓dn_inc, ↓dn_putf, ↓dn_putz, ↓dn_ast, ↓dn_exp, ↓dn_if, ↓dn_ret, ↓dn_retz, ↓dn_retv, ↓dn_brk, ↓dn_cont, ↓dn_cs, ↓dn_sw, ↓dn_pop32, ↓dn_pop64, ↓dn_aop, ↓dn_call, ↓dn_max, ↓dn_min, ↓dn_acp, ↓dn_i2l, ↓dn_args0, ↓dn_args1, og_pad, og_ent, og_rlt, og_rle, og_rgt, og_rge, og_req, og_rne, og_padd, og_psub, og_pmul, List.getD_cons_zero, List.getD_cons_succ, List.set_cons_zero, List.set_cons_succ, List.length_cons, List.length_nil, List.cons_append, List.nil_append, List.replicate, List.append_nil, Nat.reduceAdd, Nat.reduceSub, Nat.reduceEqDiff, if_true, if_false, reduceIte, Int.reduceAdd, Int.reduceSub, Int.reduceMul, Int.reduceNeg, Int.reduceLT, Int.reduceLE, Int.cast_ofNat_Int, true_or, or_true, true_and, and_true, false_and, List.mem_cons, List.not_mem_nil, or_false, false_or, ne_eq]
    refine og_loop (sNp A) (fun i e1 h1 => h1 = h ∧ e1 = [10, 100, (s : Int), oW A D s i, 0, (i : Int)]) ⟨rfl, rfl⟩ ?_
    rintro i e1 h1 hi ⟨rfl, rfl⟩
    simp -implicitDefEqProofs only [↓dn_den, ↓dn_loc, ↓dn_k, ↓dn_add, ↓dn_sub, ↓dn_mul, ↓dn_div, ↓dn_rem, ↓dn_bop, ↓dn_ladd, ↓dn_lsub, ↓dn_lmul, ↓dn_ldiv, ↓dn_lrem, ↓dn_land, ↓dn_l2i, ↓dn_neg, ↓dn_get, ↓dn_fix, ↓dn_ald, ↓dn_gld, ↓dn_yld, ↓dn_len, ↓dn_gln, ↓dn_cc, ↓dn_cb, ↓dn_and, ↓dn_or, ↓dn_not, ↓dn_cite, ↓dn_ec, ↓dn_ei, ↓dn_skip, ↓dn_seq, ↓dn_set, ↓dn_inc, ↓dn_putf, ↓dn_putz, ↓dn_ast, ↓dn_exp, ↓dn_if, ↓dn_ret, ↓dn_retz, ↓dn_retv, ↓dn_brk, ↓dn_cont, ↓dn_cs, ↓dn_sw, ↓dn_pop32, ↓dn_pop64, ↓dn_aop, ↓dn_call, ↓dn_max, ↓dn_min, ↓dn_acp, ↓dn_i2l, ↓dn_args0, ↓dn_args1, og_pad, og_ent, og_rlt, og_rle, og_rgt, og_rge, og_req, og_rne, og_padd, og_psub, og_pmul, List.getD_cons_zero, List.getD_cons_succ, List.set_cons_zero, List.set_cons_succ, List.length_cons, List.length_nil, List.cons_append, List.nil_append, List.replicate, List.append_nil, Nat.reduceAdd, Nat.reduceSub, Nat.reduceEqDiff, if_true, if_false, reduceIte, Int.reduceAdd, Int.reduceSub, Int.reduceMul, Int.reduceNeg, Int.reduceLT, Int.reduceLE, Int.cast_ofNat_Int, true_or, or_true, true_and, and_true, false_and, List.mem_cons, List.not_mem_nil, or_false, false_or, ne_eq, og_i32, og_i64]
    rw [hy.1.2.1]
    refine ⟨fun hlt => ?_, fun hge => ?_⟩
    · refine c_lives hy ho ⟨fun a => ?_, fun a => ?_⟩
      · have hl := (iteP1 a).2
        have hdi := hD i
        have w1 := oW_bd (A := A) (D := D) (s := s) (n := i + 1) hD (by omega)
        rw [hd i (by omega) hl, bt_and s (by omega) i (by omega)]
        by_cases hb : s.testBit i = true
        · rw [oW_s, if_pos hl, if_pos hb] at w1
          rw [if_pos hb]
          exact ⟨fun _ => ⟨by omega, by omega, by omega, by omega, og_nx_mk (by omega) ⟨rfl, by rw [oW_s, if_pos hl, if_pos hb]; simp⟩⟩, fun z => absurd (by trivial) z⟩
        · rw [oW_s, if_pos hl, if_neg hb] at w1
          rw [if_neg hb]
          exact ⟨fun z => absurd z (by decide), fun _ => ⟨by omega, by omega, by omega, by omega, by omega, og_nx_mk (by omega) ⟨rfl, by rw [oW_s, if_pos hl, if_neg hb]; simp⟩⟩⟩
      · have hl : ¬ sLive A i = true := fun z => iteP0 a ⟨⟨by omega, hlt⟩, z⟩
        exact ⟨by omega, og_nx_mk (by omega) ⟨rfl, by rw [oW_s, if_neg hl]; simp⟩⟩
    · have e : i = sNp A := by omega
      subst e
      exact ⟨_, rfl⟩
  · rintro e1 h1 ⟨rfl, c5, rfl⟩
    simp -implicitDefEqProofs only [↓dn_den, ↓dn_loc, ↓dn_k, ↓dn_add, ↓dn_sub, ↓dn_mul, ↓dn_div, ↓dn_rem, ↓dn_bop, ↓dn_ladd, ↓dn_lsub, ↓dn_lmul, ↓dn_ldiv, ↓dn_lrem, ↓dn_land, ↓dn_l2i, ↓dn_neg, ↓dn_get, ↓dn_fix, ↓dn_ald, ↓dn_gld, ↓dn_yld, ↓dn_len, ↓dn_gln, ↓dn_cc, ↓dn_cb, ↓dn_and, ↓dn_or, ↓dn_not, ↓dn_cite, ↓dn_ec, ↓dn_ei, ↓dn_skip, ↓dn_seq, ↓dn_set, ↓dn_inc, ↓dn_putf, ↓dn_putz, ↓dn_ast, ↓dn_exp, ↓dn_if, ↓dn_ret, ↓dn_retz, ↓dn_retv, ↓dn_brk, ↓dn_cont, ↓dn_cs, ↓dn_sw, ↓dn_pop32, ↓dn_pop64, ↓dn_aop, ↓dn_call, ↓dn_max, ↓dn_min, ↓dn_acp, ↓dn_i2l, ↓dn_args0, ↓dn_args1, og_pad, og_ent, og_rlt, og_rle, og_rgt, og_rge, og_req, og_rne, og_padd, og_psub, og_pmul, List.getD_cons_zero, List.getD_cons_succ, List.set_cons_zero, List.set_cons_succ, List.length_cons, List.length_nil, List.cons_append, List.nil_append, List.replicate, List.append_nil, Nat.reduceAdd, Nat.reduceSub, Nat.reduceEqDiff, if_true, if_false, reduceIte, Int.reduceAdd, Int.reduceSub, Int.reduceMul, Int.reduceNeg, Int.reduceLT, Int.reduceLE, Int.cast_ofNat_Int, true_or, or_true, true_and, and_true, false_and, List.mem_cons, List.not_mem_nil, or_false, false_or, ne_eq]
    exact hK
theorem s_Out_isFilledBy {sc g : Int} {s : Nat} (hR : hasR h sc (A 0 1) P) (hP : okP P) (hs : 10 < sc) (hs2 : sc + 3 < 100) (hy : isY h 100 A) (ho : okY A) (hm : A 0 2 < 999) (hsn : s < 256) (hg : 0 ≤ g ∧ g < A 0 0)
    (hK : ∀ h', frY 110 h h' → K (if sFill (sPass P (sDie A s (sNp A))) g = true then 1 else 0) h') : m_Outlook_isFilledBy [10, sc, 100, (s : Int), g] h K := by
  have h6 := ho.1
  have hnp : sNp A = (A 0 1).toNat := rfl
  have hng : sNg A = (A 0 0).toNat := rfl
  unfold m_Outlook_isFilledBy
  simp -implicitDefEqProofs only [↓dn_den, ↓dn_loc, ↓dn_k, ↓dn_add, ↓dn_sub, ↓dn_mul, ↓dn_div, ↓dn_rem, ↓dn_bop, ↓dn_ladd, ↓dn_lsub, ↓dn_lmul, ↓dn_ldiv, ↓dn_lrem, ↓dn_land, ↓dn_l2i, ↓dn_neg, ↓dn_get, ↓dn_fix, ↓dn_ald, ↓dn_gld, ↓dn_yld, ↓dn_len, ↓dn_gln, ↓dn_cc, ↓dn_cb, ↓dn_and, ↓dn_or, ↓dn_not, ↓dn_cite, ↓dn_ec, ↓dn_ei, ↓dn_skip, ↓dn_seq, ↓dn_set, ↓dn_inc, ↓dn_putf, ↓dn_putz, ↓dn_ast, ↓dn_exp, ↓dn_if, ↓dn_ret, ↓dn_retz, ↓dn_retv, ↓dn_brk, ↓dn_cont, ↓dn_cs, ↓dn_sw, ↓dn_pop32, ↓dn_pop64, ↓dn_aop, ↓dn_call, ↓dn_max, ↓dn_min, ↓dn_acp, ↓dn_i2l, ↓dn_args0, ↓dn_args1, og_pad, og_ent, og_rlt, og_rle, og_rgt, og_rge, og_req, og_rne, og_padd, og_psub, og_pmul, List.getD_cons_zero, List.getD_cons_succ, List.set_cons_zero, List.set_cons_succ, List.length_cons, List.length_nil, List.cons_append, List.nil_append, List.replicate, List.append_nil, Nat.reduceAdd, Nat.reduceSub, Nat.reduceEqDiff, if_true, if_false, reduceIte, Int.reduceAdd, Int.reduceSub, Int.reduceMul, Int.reduceNeg, Int.reduceLT, Int.reduceLE, Int.cast_ofNat_Int, true_or, or_true, true_and, and_true, false_and, List.mem_cons, List.not_mem_nil, or_false, false_or, ne_eq]
  refine s_Yard_become (by omega) hy ho (fun h1 hy1 hf1 => ?_)
  refine ⟨fun e2 h2 => (∃ c5, e2 = [10, sc, 100, (s : Int), g, c5]) ∧ isY h2 110 (sDie A s (sNp A)) ∧ frY 110 h h2, ?_, ?_⟩
  · simp -implicitDefEqProofs only [↓dn_den, ↓dn_loc, ↓dn_k, ↓dn_add, ↓dn_sub, ↓dn_mul, ↓dn_div, ↓dn_rem, ↓dn_bop, ↓dn_ladd, ↓dn_lsub, ↓dn_lmul, ↓dn_ldiv, ↓dn_lrem, ↓dn_land, ↓dn_l2i, ↓dn_neg, ↓dn_get, ↓dn_fix, ↓dn_ald, ↓dn_gld, ↓dn_yld, ↓dn_len, ↓dn_gln, ↓dn_cc, ↓dn_cb, ↓dn_and, ↓dn_or, ↓dn_not, ↓dn_cite, ↓dn_ec, ↓dn_ei, ↓dn_skip, ↓dn_seq, ↓dn_set, ↓dn_inc, ↓dn_putf, ↓dn_putz, ↓dn_ast, ↓dn_exp, ↓dn_if, ↓dn_ret, ↓dn_retz, ↓dn_retv, ↓dn_brk, ↓dn_cont, ↓dn_cs, ↓dn_sw, ↓dn_pop32, ↓dn_pop64, ↓dn_aop, ↓dn_call, ↓dn_max, ↓dn_min, ↓dn_acp, ↓dn_i2l, ↓dn_args0, ↓dn_args1, og_pad, og_ent, og_rlt, og_rle, og_rgt, og_rge, og_req, og_rne, og_padd, og_psub, og_pmul, List.getD_cons_zero, List.getD_cons_succ, List.set_cons_zero, List.set_cons_succ, List.length_cons, List.length_nil, List.cons_append, List.nil_append, List.replicate, List.append_nil, Nat.reduceAdd, Nat.reduceSub, Nat.reduceEqDiff, if_true, if_false, reduceIte, Int.reduceAdd, Int.reduceSub, Int.reduceMul, Int.reduceNeg, Int.reduceLT, Int.reduceLE, Int.cast_ofNat_Int, true_or, or_true, true_and, and_true, false_and, List.mem_cons, List.not_mem_nil, or_false, false_or, ne_eq]
    refine og_loop (sNp A) (fun i e2 h2 => e2 = [10, sc, 100, (s : Int), g, (i : Int)] ∧ isY h2 110 (sDie A s i) ∧ frY 110 h h2) ⟨rfl, hy1, hf1⟩ ?_
    rintro i e2 h2 hi ⟨rfl, hy2, hf2⟩
    simp -implicitDefEqProofs only [↓dn_den, ↓dn_loc, ↓dn_k, ↓dn_add, ↓dn_sub, ↓dn_mul, ↓dn_div, ↓dn_rem, ↓dn_bop, ↓dn_ladd, ↓dn_lsub, ↓dn_lmul, ↓dn_ldiv, ↓dn_lrem, ↓dn_land, ↓dn_l2i, ↓dn_neg, ↓dn_get, ↓dn_fix, ↓dn_ald, ↓dn_gld, ↓dn_yld, ↓dn_len, ↓dn_gln, ↓dn_cc, ↓dn_cb, ↓dn_and, ↓dn_or, ↓dn_not, ↓dn_cite, ↓dn_ec, ↓dn_ei, ↓dn_skip, ↓dn_seq, ↓dn_set, ↓dn_inc, ↓dn_putf, ↓dn_putz, ↓dn_ast, ↓dn_exp, ↓dn_if, ↓dn_ret, ↓dn_retz, ↓dn_retv, ↓dn_brk, ↓dn_cont, ↓dn_cs, ↓dn_sw, ↓dn_pop32, ↓dn_pop64, ↓dn_aop, ↓dn_call, ↓dn_max, ↓dn_min, ↓dn_acp, ↓dn_i2l, ↓dn_args0, ↓dn_args1, og_pad, og_ent, og_rlt, og_rle, og_rgt, og_rge, og_req, og_rne, og_padd, og_psub, og_pmul, List.getD_cons_zero, List.getD_cons_succ, List.set_cons_zero, List.set_cons_succ, List.length_cons, List.length_nil, List.cons_append, List.nil_append, List.replicate, List.append_nil, Nat.reduceAdd, Nat.reduceSub, Nat.reduceEqDiff, if_true, if_false, reduceIte, Int.reduceAdd, Int.reduceSub, Int.reduceMul, Int.reduceNeg, Int.reduceLT, Int.reduceLE, Int.cast_ofNat_Int, true_or, or_true, true_and, and_true, false_and, List.mem_cons, List.not_mem_nil, or_false, false_or, ne_eq, og_i32]
    have hy2n : isY h2 100 A := isY_fr hy (fun i k a b => hf2 i k (by omega) (by omega) (by omega))
    rw [hy2n.1.2.1]
    have sb := sameB_die (A := A) (s := s) i
    refine ⟨fun hlt => ?_, fun hge => ?_⟩
    · have oi := okY_die (s := s) ho i (by omega)
      rw [bt_and s (by omega) i (by omega)]
      by_cases hb : s.testBit i = true
      · rw [if_pos hb]
        refine ⟨fun _ => ?_, fun z => absurd (by trivial) z⟩
        refine s_Yard_nextGrave hy2 oi (by omega) (by rw [sb.2.1]; omega) ?_
        have rg := sNext_rg (sDie A s i) i (sDie A s i 0 0).toNat
        rw [sb.1] at rg ⊢
        refine s_Yard_bury hy2 oi (by omega) (by rw [sb.2.1]; omega) rg.1 (by omega) (fun h3 hy3 hf3 => ?_)
        exact ⟨by omega, og_nx_mk (by omega) ⟨by simp, by rw [sDie_s, if_pos hb]; exact hy3, frY_tr hf2 hf3⟩⟩
      · rw [if_neg hb]
        exact ⟨fun z => absurd z (by decide), fun _ => ⟨by omega, og_nx_mk (by omega) ⟨by simp, by rw [sDie_s, if_neg hb]; exact hy2, hf2⟩⟩⟩
    · have e : i = sNp A := by omega
      subst e
      exact ⟨⟨_, rfl⟩, hy2, hf2⟩
  · rintro e2 h2 ⟨⟨c5, rfl⟩, hy2, hf2⟩
    simp -implicitDefEqProofs only [↓dn_den, ↓dn_loc, ↓dn_k, ↓dn_add, ↓dn_sub, ↓dn_mul, ↓dn_div, ↓dn_rem, ↓dn_bop, ↓dn_ladd, ↓dn_lsub, ↓dn_lmul, ↓dn_ldiv, ↓dn_lrem, ↓dn_land, ↓dn_l2i, ↓dn_neg, ↓dn_get, ↓dn_fix, ↓dn_ald, ↓dn_gld, ↓dn_yld, ↓dn_len, ↓dn_gln, ↓dn_cc, ↓dn_cb, ↓dn_and, ↓dn_or, ↓dn_not, ↓dn_cite, ↓dn_ec, ↓dn_ei, ↓dn_skip, ↓dn_seq, ↓dn_set, ↓dn_inc, ↓dn_putf, ↓dn_putz, ↓dn_ast, ↓dn_exp, ↓dn_if, ↓dn_ret, ↓dn_retz, ↓dn_retv, ↓dn_brk, ↓dn_cont, ↓dn_cs, ↓dn_sw, ↓dn_pop32, ↓dn_pop64, ↓dn_aop, ↓dn_call, ↓dn_max, ↓dn_min, ↓dn_acp, ↓dn_i2l, ↓dn_args0, ↓dn_args1, og_pad, og_ent, og_rlt, og_rle, og_rgt, og_rge, og_req, og_rne, og_padd, og_psub, og_pmul, List.getD_cons_zero, List.getD_cons_succ, List.set_cons_zero, List.set_cons_succ, List.length_cons, List.length_nil, List.cons_append, List.nil_append, List.replicate, List.append_nil, Nat.reduceAdd, Nat.reduceSub, Nat.reduceEqDiff, if_true, if_false, reduceIte, Int.reduceAdd, Int.reduceSub, Int.reduceMul, Int.reduceNeg, Int.reduceLT, Int.reduceLE, Int.cast_ofNat_Int, true_or, or_true, true_and, and_true, false_and, List.mem_cons, List.not_mem_nil, or_false, false_or, ne_eq]
    have sb := sameB_die (A := A) (s := s) (sNp A)
    have oi := okY_die (s := s) ho (sNp A) (by omega)
    refine s_Alm_pass (hasR_N (hasR_fr hR hf2 hs (by omega)) sb.2.1) hP hs (by omega) hy2 oi (by rw [sb.2.2.1]; exact hm) (fun h3 hy3 hf3 => ?_)
    refine s_Yard_isFilled hg.1 (by omega) ?_
    have e0 := (sPass_0 (P := P) (A := sDie A s (sNp A))).1
    have e4 := (hy3.2.1 g hg.1 (by rw [e0, sb.1]; exact hg.2)).2.2.2
    have hK3 := hK h3 (frY_tr hf2 hf3)
    by_cases hf : sFill (sPass P (sDie A s (sNp A))) g = true
    · rw [if_pos hf] at hK3
      unfold sFill at hf
      rw [decide_eq_true_eq, ← e4] at hf
      rw [if_pos hf]
      exact ⟨Or.inr rfl, hK3⟩
    · rw [if_neg hf] at hK3
      unfold sFill at hf
      rw [decide_eq_true_eq, ← e4] at hf
      rw [if_neg hf]
      exact ⟨Or.inl rfl, hK3⟩
theorem s_Out_drawsThatFill {sc g : Int} (hR : hasR h sc (A 0 1) P) (hP : okP P) (hs : 19 < sc) (hs2 : sc + 3 < 100) (hy : isY h 100 A) (ho : okY A) (hm : A 0 2 < 999) (hg : g = -1 ∨ (0 ≤ g ∧ g < A 0 0))
    (hK : ∀ h', frS h h' → K (oSum (sOf P A g) (2 ^ sNp A)) h') : m_Outlook_drawsThatFill [10, sc, 100, g] h K := by
  have h6 := ho.1
  have hnp : sNp A = (A 0 1).toNat := rfl
  have hl := sSet_lt (sLive A) (sNp A)
  have h2 := two_np ho
  unfold m_Outlook_drawsThatFill
  simp -implicitDefEqProofs only [↓dn_den, ↓dn_loc, ↓dn_k, ↓dn_add, ↓dn_sub, ↓dn_mul, ↓dn_div, ↓dn_rem, ↓dn_bop, ↓dn_ladd, ↓dn_lsub, ↓dn_lmul, ↓dn_ldiv, ↓dn_lrem, ↓dn_land, ↓dn_l2i, ↓dn_neg, ↓dn_get, ↓dn_fix, ↓dn_ald, ↓dn_gld, ↓dn_yld, ↓dn_len, ↓dn_gln, ↓dn_cc, ↓dn_cb, ↓dn_and, ↓dn_or, ↓dn_not, ↓dn_cite, ↓dn_ec, ↓dn_ei, ↓dn_skip, ↓dn_seq, ↓dn_set, ↓dn_inc, ↓dn_putf, ↓dn_putz, ↓dn_ast, ↓dn_exp, ↓dn_if, ↓dn_ret, ↓dn_retz, ↓dn_retv, ↓dn_brk, ↓dn_cont, ↓dn_cs, ↓dn_sw, ↓dn_pop32, ↓dn_pop64, ↓dn_aop, ↓dn_call, ↓dn_max, ↓dn_min, ↓dn_acp, ↓dn_i2l, ↓dn_args0, ↓dn_args1, og_pad, og_ent, og_rlt, og_rle, og_rgt, og_rge, og_req, og_rne, og_padd, og_psub, og_pmul, List.getD_cons_zero, List.getD_cons_succ, List.set_cons_zero, List.set_cons_succ, List.length_cons, List.length_nil, List.cons_append, List.nil_append, List.replicate, List.append_nil, Nat.reduceAdd, Nat.reduceSub, Nat.reduceEqDiff, if_true, if_false, reduceIte, Int.reduceAdd, Int.reduceSub, Int.reduceMul, Int.reduceNeg, Int.reduceLT, Int.reduceLE, Int.cast_ofNat_Int, true_or, or_true, true_and, and_true, false_and, List.mem_cons, List.not_mem_nil, or_false, false_or, ne_eq]
  refine ⟨fun e1 h1 => (∃ c5, e1 = [10, sc, 100, g, (sSet (sLive A) (sNp A) : Int), c5, 0, 0, 0, 0]) ∧ frS h h1 ∧ ∀ p : Nat, p < sNp A → sLive A p = true → h1 14 p = sDs P A p, ?_, ?_⟩
  · simp -implicitDefEqProofs only [↓dn_den, ↓dn_loc, ↓dn_k, ↓dn_add, ↓dn_sub, ↓dn_mul, ↓dn_div, ↓dn_rem, ↓dn_bop, ↓dn_ladd, ↓dn_lsub, ↓dn_lmul, ↓dn_ldiv, ↓dn_lrem, ↓dn_land, ↓dn_l2i, ↓dn_neg, ↓dn_get, ↓dn_fix, ↓dn_ald, ↓dn_gld, ↓dn_yld, ↓dn_len, ↓dn_gln, ↓dn_cc, ↓dn_cb, ↓dn_and, ↓dn_or, ↓dn_not, ↓dn_cite, ↓dn_ec, ↓dn_ei, ↓dn_skip, ↓dn_seq, ↓dn_set, ↓dn_inc, ↓dn_putf, ↓dn_putz, ↓dn_ast, ↓dn_exp, ↓dn_if, ↓dn_ret, ↓dn_retz, ↓dn_retv, ↓dn_brk, ↓dn_cont, ↓dn_cs, ↓dn_sw, ↓dn_pop32, ↓dn_pop64, ↓dn_aop, ↓dn_call, ↓dn_max, ↓dn_min, ↓dn_acp, ↓dn_i2l, ↓dn_args0, ↓dn_args1, og_pad, og_ent, og_rlt, og_rle, og_rgt, og_rge, og_req, og_rne, og_padd, og_psub, og_pmul, List.getD_cons_zero, List.getD_cons_succ, List.set_cons_zero, List.set_cons_succ, List.length_cons, List.length_nil, List.cons_append, List.nil_append, List.replicate, List.append_nil, Nat.reduceAdd, Nat.reduceSub, Nat.reduceEqDiff, if_true, if_false, reduceIte, Int.reduceAdd, Int.reduceSub, Int.reduceMul, Int.reduceNeg, Int.reduceLT, Int.reduceLE, Int.cast_ofNat_Int, true_or, or_true, true_and, and_true, false_and, List.mem_cons, List.not_mem_nil, or_false, false_or, ne_eq]
    refine og_loop (sNp A) (fun i e1 h1 => e1 = [10, sc, 100, g, (sSet (sLive A) i : Int), (i : Int), 0, 0, 0, 0] ∧ frS h h1 ∧ ∀ p : Nat, p < i → sLive A p = true → h1 14 p = sDs P A p) ⟨rfl, frS_rf, fun p hp => by omega⟩ ?_
    rintro i e1 h1 hi ⟨rfl, hS, hz⟩
    simp -implicitDefEqProofs only [↓dn_den, ↓dn_loc, ↓dn_k, ↓dn_add, ↓dn_sub, ↓dn_mul, ↓dn_div, ↓dn_rem, ↓dn_bop, ↓dn_ladd, ↓dn_lsub, ↓dn_lmul, ↓dn_ldiv, ↓dn_lrem, ↓dn_land, ↓dn_l2i, ↓dn_neg, ↓dn_get, ↓dn_fix, ↓dn_ald, ↓dn_gld, ↓dn_yld, ↓dn_len, ↓dn_gln, ↓dn_cc, ↓dn_cb, ↓dn_and, ↓dn_or, ↓dn_not, ↓dn_cite, ↓dn_ec, ↓dn_ei, ↓dn_skip, ↓dn_seq, ↓dn_set, ↓dn_inc, ↓dn_putf, ↓dn_putz, ↓dn_ast, ↓dn_exp, ↓dn_if, ↓dn_ret, ↓dn_retz, ↓dn_retv, ↓dn_brk, ↓dn_cont, ↓dn_cs, ↓dn_sw, ↓dn_pop32, ↓dn_pop64, ↓dn_aop, ↓dn_call, ↓dn_max, ↓dn_min, ↓dn_acp, ↓dn_i2l, ↓dn_args0, ↓dn_args1, og_pad, og_ent, og_rlt, og_rle, og_rgt, og_rge, og_req, og_rne, og_padd, og_psub, og_pmul, List.getD_cons_zero, List.getD_cons_succ, List.set_cons_zero, List.set_cons_succ, List.length_cons, List.length_nil, List.cons_append, List.nil_append, List.replicate, List.append_nil, Nat.reduceAdd, Nat.reduceSub, Nat.reduceEqDiff, if_true, if_false, reduceIte, Int.reduceAdd, Int.reduceSub, Int.reduceMul, Int.reduceNeg, Int.reduceLT, Int.reduceLE, Int.cast_ofNat_Int, true_or, or_true, true_and, and_true, false_and, List.mem_cons, List.not_mem_nil, or_false, false_or, ne_eq, og_i32]
    have hy1 : isY h1 100 A := isY_fr hy (fun i k a b => hS i k (by omega))
    have hR1 : hasR h1 sc (A 0 1) P := hasR_S hR hS (by omega) hs2 (by omega)
    rw [hy1.1.2.1]
    refine ⟨fun hlt => ?_, fun hge => ?_⟩
    · refine c_lives hy1 ho ⟨fun a => ?_, fun a => ?_⟩
      · have hlv := (iteP1 a).2
        have hsl := sSet_le (f := sLive A) (n := i) (m := 10) (by omega) (by omega)
        rw [bt_or _ hsl i (by omega)]
        obtain ⟨u, hu, -⟩ := hP 8 (by decide) (by decide)
        refine s_Reck_value (hR1 (by omega) 8 (by decide) (by decide)) (by omega) (by omega) (by omega) hy1 ⟨ho, by omega, hlt⟩ (by decide) hu (fun h2 hf2 => ?_)
        refine s_OG_cut ?_
        refine ⟨by omega, by omega, by omega, og_nx_mk (by omega) ⟨by rw [sSet_s, if_pos hlv]; simp, fun j k hj => ?_, fun p hp hpl => ?_⟩⟩
        · rw [og_up_i (by omega), hf2 j k (by omega)]; exact hS j k hj
        · by_cases e : p = i
          · subst e; rw [og_up_eq]; rfl
          · rw [og_up_k (by omega), hf2 _ _ (by decide)]; exact hz p (by omega) hpl
      · have hlv : ¬ sLive A i = true := fun z => iteP0 a ⟨⟨by omega, hlt⟩, z⟩
        refine ⟨by omega, og_nx_mk (by omega) ⟨by rw [sSet_s, if_neg hlv]; simp, hS, fun p hp hpl => ?_⟩⟩
        by_cases e : p = i
        · subst e; exact absurd hpl hlv
        · exact hz p (by omega) hpl
    · have e : i = sNp A := by omega
      subst e
      exact ⟨⟨_, rfl⟩, hS, hz⟩
  · rintro e1 h1 ⟨⟨c5, rfl⟩, hS, hz⟩
    simp -implicitDefEqProofs only [↓dn_den, ↓dn_loc, ↓dn_k, ↓dn_add, ↓dn_sub, ↓dn_mul, ↓dn_div, ↓dn_rem, ↓dn_bop, ↓dn_ladd, ↓dn_lsub, ↓dn_lmul, ↓dn_ldiv, ↓dn_lrem, ↓dn_land, ↓dn_l2i, ↓dn_neg, ↓dn_get, ↓dn_fix, ↓dn_ald, ↓dn_gld, ↓dn_yld, ↓dn_len, ↓dn_gln, ↓dn_cc, ↓dn_cb, ↓dn_and, ↓dn_or, ↓dn_not, ↓dn_cite, ↓dn_ec, ↓dn_ei, ↓dn_skip, ↓dn_seq, ↓dn_set, ↓dn_inc, ↓dn_putf, ↓dn_putz, ↓dn_ast, ↓dn_exp, ↓dn_if, ↓dn_ret, ↓dn_retz, ↓dn_retv, ↓dn_brk, ↓dn_cont, ↓dn_cs, ↓dn_sw, ↓dn_pop32, ↓dn_pop64, ↓dn_aop, ↓dn_call, ↓dn_max, ↓dn_min, ↓dn_acp, ↓dn_i2l, ↓dn_args0, ↓dn_args1, og_pad, og_ent, og_rlt, og_rle, og_rgt, og_rge, og_req, og_rne, og_padd, og_psub, og_pmul, List.getD_cons_zero, List.getD_cons_succ, List.set_cons_zero, List.set_cons_succ, List.length_cons, List.length_nil, List.cons_append, List.nil_append, List.replicate, List.append_nil, Nat.reduceAdd, Nat.reduceSub, Nat.reduceEqDiff, if_true, if_false, reduceIte, Int.reduceAdd, Int.reduceSub, Int.reduceMul, Int.reduceNeg, Int.reduceLT, Int.reduceLE, Int.cast_ofNat_Int, true_or, or_true, true_and, and_true, false_and, List.mem_cons, List.not_mem_nil, or_false, false_or, ne_eq]
    refine ⟨fun e2 h2 => (∃ c7 c8 c9, e2 = [10, sc, 100, g, (sSet (sLive A) (sNp A) : Int), oSum (sOf P A g) (2 ^ sNp A), 0, c7, c8, c9]) ∧ frS h h2, ?_, ?_⟩
    · simp -implicitDefEqProofs only [↓dn_den, ↓dn_loc, ↓dn_k, ↓dn_add, ↓dn_sub, ↓dn_mul, ↓dn_div, ↓dn_rem, ↓dn_bop, ↓dn_ladd, ↓dn_lsub, ↓dn_lmul, ↓dn_ldiv, ↓dn_lrem, ↓dn_land, ↓dn_l2i, ↓dn_neg, ↓dn_get, ↓dn_fix, ↓dn_ald, ↓dn_gld, ↓dn_yld, ↓dn_len, ↓dn_gln, ↓dn_cc, ↓dn_cb, ↓dn_and, ↓dn_or, ↓dn_not, ↓dn_cite, ↓dn_ec, ↓dn_ei, ↓dn_skip, ↓dn_seq, ↓dn_set, ↓dn_inc, ↓dn_putf, ↓dn_putz, ↓dn_ast, ↓dn_exp, ↓dn_if, ↓dn_ret, ↓dn_retz, ↓dn_retv, ↓dn_brk, ↓dn_cont, ↓dn_cs, ↓dn_sw, ↓dn_pop32, ↓dn_pop64, ↓dn_aop, ↓dn_call, ↓dn_max, ↓dn_min, ↓dn_acp, ↓dn_i2l, ↓dn_args0, ↓dn_args1, og_pad, og_ent, og_rlt, og_rle, og_rgt, og_rge, og_req, og_rne, og_padd, og_psub, og_pmul, List.getD_cons_zero, List.getD_cons_succ, List.set_cons_zero, List.set_cons_succ, List.length_cons, List.length_nil, List.cons_append, List.nil_append, List.replicate, List.append_nil, Nat.reduceAdd, Nat.reduceSub, Nat.reduceEqDiff, if_true, if_false, reduceIte, Int.reduceAdd, Int.reduceSub, Int.reduceMul, Int.reduceNeg, Int.reduceLT, Int.reduceLE, Int.cast_ofNat_Int, true_or, or_true, true_and, and_true, false_and, List.mem_cons, List.not_mem_nil, or_false, false_or, ne_eq]
      refine og_loop (sSet (sLive A) (sNp A) + 1) (fun i e2 h2 => (∃ c8 c9, e2 = [10, sc, 100, g, (sSet (sLive A) (sNp A) : Int), oSum (sOf P A g) i, 0, (i : Int), c8, c9]) ∧ frS h h2 ∧ ∀ p : Nat, p < sNp A → sLive A p = true → h2 14 p = sDs P A p) ⟨⟨0, 0, rfl⟩, hS, hz⟩ ?_
      rintro i e2 h2 hi ⟨⟨c8, c9, rfl⟩, hS2, hz2⟩
      simp -implicitDefEqProofs only [↓dn_den, ↓dn_loc, ↓dn_k, ↓dn_add, ↓dn_sub, ↓dn_mul, ↓dn_div, ↓dn_rem, ↓dn_bop, ↓dn_ladd, ↓dn_lsub, ↓dn_lmul, ↓dn_ldiv, ↓dn_lrem, ↓dn_land, ↓dn_l2i, ↓dn_neg, ↓dn_get, ↓dn_fix, ↓dn_ald, ↓dn_gld, ↓dn_yld, ↓dn_len, ↓dn_gln, ↓dn_cc, ↓dn_cb, ↓dn_and, ↓dn_or, ↓dn_not, ↓dn_cite, ↓dn_ec, ↓dn_ei, ↓dn_skip, ↓dn_seq, ↓dn_set, ↓dn_inc, ↓dn_putf, ↓dn_putz, ↓dn_ast, ↓dn_exp, ↓dn_if, ↓dn_ret, ↓dn_retz, ↓dn_retv, ↓dn_brk, ↓dn_cont, ↓dn_cs, ↓dn_sw, ↓dn_pop32, ↓dn_pop64, ↓dn_aop, ↓dn_call, ↓dn_max, ↓dn_min, ↓dn_acp, ↓dn_i2l, ↓dn_args0, ↓dn_args1, og_pad, og_ent, og_rlt, og_rle, og_rgt, og_rge, og_req, og_rne, og_padd, og_psub, og_pmul, List.getD_cons_zero, List.getD_cons_succ, List.set_cons_zero, List.set_cons_succ, List.length_cons, List.length_nil, List.cons_append, List.nil_append, List.replicate, List.append_nil, Nat.reduceAdd, Nat.reduceSub, Nat.reduceEqDiff, if_true, if_false, reduceIte, Int.reduceAdd, Int.reduceSub, Int.reduceMul, Int.reduceNeg, Int.reduceLT, Int.reduceLE, Int.cast_ofNat_Int, true_or, or_true, true_and, and_true, false_and, List.mem_cons, List.not_mem_nil, or_false, false_or, ne_eq, og_i32, og_i64]
      refine ⟨fun hle => ?_, fun hgt => ?_⟩
      · have hy2 : isY h2 100 A := isY_fr hy (fun i k a b => hS2 i k (by omega))
        have hR2 : hasR h2 sc (A 0 1) P := hasR_S hR hS2 (by omega) hs2 (by omega)
        have hi2 : i < 2 ^ sNp A := by omega
        have sm := sOf_sum (P := P) (A := A) (g := g) ho i
        have srg := sOf_rg (P := P) (A := A) (g := g) ho i
        have iff1 := oSub_and (A := A) hi2
        have iff2 := bt_sub (s := i) (L := sSet (sLive A) (sNp A)) (by omega) (by omega)
        have w1 := oW_bd (A := A) (D := sDs P A) (s := i) (n := sNp A) sDs_rg (by omega)
        have fin : ∀ (v c8 c9 : Int) (h3 : Hp), v = oSum (sOf P A g) i + sOf P A g i → frS h2 h3 → (∀ k, h3 14 k = h2 14 k) → og_nx (sSet (sLive A) (sNp A) + 1) (fun i e2 h2 => (∃ c8 c9, e2 = [10, sc, 100, g, (sSet (sLive A) (sNp A) : Int), oSum (sOf P A g) i, 0, (i : Int), c8, c9]) ∧ frS h h2 ∧ ∀ p : Nat, p < sNp A → sLive A p = true → h2 14 p = sDs P A p) i [10, sc, 100, g, (sSet (sLive A) (sNp A) : Int), v, 0, (i : Int) + 1, c8, c9] h3 := by
          intro v c8 c9 h3 hv hS3 h14
          refine og_nx_mk (by omega) ⟨⟨c8, c9, by rw [hv, oSum_s]; simp⟩, frS_tr hS2 hS3, fun p hp hpl => by rw [h14]; exact hz2 p hp hpl⟩
        refine ⟨fun hsub => ?_, fun hns => ?_⟩
        · have hsub' := iff1.mpr (iff2.mp hsub)
          refine s_Out_drawsOf hy2 ho (by omega) sDs_rg hz2 ?_
          refine ⟨fun hpos => ⟨fun hg1 => ?_, fun hg1 => ?_⟩, fun hpos => ⟨by omega, fin _ _ _ _ ?_ frS_rf (fun _ => rfl)⟩⟩
          · have ef : sOf P A g i = oW A (sDs P A) i (sNp A) := by unfold sOf; exact if_pos ⟨hsub', Or.inl hg1⟩
            exact ⟨by omega, by omega, fin _ _ _ _ (by rw [ef]) frS_rf (fun _ => rfl)⟩
          · refine s_Out_isFilledBy hR2 hP (by omega) hs2 hy2 ho hm (by omega) (by omega) (fun h3 hf3 => ?_)
            refine ⟨fun hf => ?_, fun hf => ⟨by omega, fin _ _ _ _ ?_ (frS_Y hf3) (fun k => hf3 _ _ (by decide) (by decide) (by decide))⟩⟩
            · have ef : sOf P A g i = oW A (sDs P A) i (sNp A) := by unfold sOf; exact if_pos ⟨hsub', Or.inr (iteP1 hf)⟩
              exact ⟨by omega, by omega, fin _ _ _ _ (by rw [ef]) (frS_Y hf3) (fun k => hf3 _ _ (by decide) (by decide) (by decide))⟩
            · have ef : sOf P A g i = 0 := by unfold sOf; exact if_neg (fun z => z.2.elim hg1 (iteP0 hf))
              rw [ef]; omega
          · have ew : oW A (sDs P A) i (sNp A) = 0 := by omega
            have ef : sOf P A g i = 0 := by unfold sOf; rw [ew]; split <;> rfl
            rw [ef]; omega
        · have ef : sOf P A g i = 0 := by unfold sOf; exact if_neg (fun z => hns (iff2.mpr (iff1.mp z.1)))
          exact ⟨by omega, fin _ _ _ _ (by rw [ef]; omega) frS_rf (fun _ => rfl)⟩
      · have e : i = sSet (sLive A) (sNp A) + 1 := by omega
        subst e
        rw [← sOf_lv ho]
        exact ⟨⟨_, _, _, rfl⟩, hS2⟩
    · rintro e2 h2 ⟨⟨c7, c8, c9, rfl⟩, hS2⟩
      simp -implicitDefEqProofs only [↓dn_den, ↓dn_loc, ↓dn_k, ↓dn_add, ↓dn_sub, ↓dn_mul, ↓dn_div, ↓dn_rem, ↓dn_bop, ↓dn_ladd, ↓dn_lsub, ↓dn_lmul, ↓dn_ldiv, ↓dn_lrem, ↓dn_land, ↓dn_l2i, ↓dn_neg, ↓dn_get, ↓dn_fix, ↓dn_ald, ↓dn_gld, ↓dn_yld, ↓dn_len, ↓dn_gln, ↓dn_cc, ↓dn_cb, ↓dn_and, ↓dn_or, ↓dn_not, ↓dn_cite, ↓dn_ec, ↓dn_ei, ↓dn_skip, ↓dn_seq, ↓dn_set, ↓dn_inc, ↓dn_putf, ↓dn_putz, ↓dn_ast, ↓dn_exp, ↓dn_if, ↓dn_ret, ↓dn_retz, ↓dn_retv, ↓dn_brk, ↓dn_cont, ↓dn_cs, ↓dn_sw, ↓dn_pop32, ↓dn_pop64, ↓dn_aop, ↓dn_call, ↓dn_max, ↓dn_min, ↓dn_acp, ↓dn_i2l, ↓dn_args0, ↓dn_args1, og_pad, og_ent, og_rlt, og_rle, og_rgt, og_rge, og_req, og_rne, og_padd, og_psub, og_pmul, List.getD_cons_zero, List.getD_cons_succ, List.set_cons_zero, List.set_cons_succ, List.length_cons, List.length_nil, List.cons_append, List.nil_append, List.replicate, List.append_nil, Nat.reduceAdd, Nat.reduceSub, Nat.reduceEqDiff, if_true, if_false, reduceIte, Int.reduceAdd, Int.reduceSub, Int.reduceMul, Int.reduceNeg, Int.reduceLT, Int.reduceLE, Int.cast_ofNat_Int, true_or, or_true, true_and, and_true, false_and, List.mem_cons, List.not_mem_nil, or_false, false_or, ne_eq]
      exact hK h2 hS2
theorem c_odds {g : Int} (hc : isC h A P) (hP : okP P) (ho : okY A) (hK : ∀ h', frS h h' → K (sOdds P A g) h') : m_OG_odds [0, g] h K := by
  have h6 := ho.1
  have ht := hc.2.1
  unfold toldOK at ht
  unfold m_OG_odds
  simp -implicitDefEqProofs only [↓dn_den, ↓dn_loc, ↓dn_k, ↓dn_add, ↓dn_sub, ↓dn_mul, ↓dn_div, ↓dn_rem, ↓dn_bop, ↓dn_ladd, ↓dn_lsub, ↓dn_lmul, ↓dn_ldiv, ↓dn_lrem, ↓dn_land, ↓dn_l2i, ↓dn_neg, ↓dn_get, ↓dn_fix, ↓dn_ald, ↓dn_gld, ↓dn_yld, ↓dn_len, ↓dn_gln, ↓dn_cc, ↓dn_cb, ↓dn_and, ↓dn_or, ↓dn_not, ↓dn_cite, ↓dn_ec, ↓dn_ei, ↓dn_skip, ↓dn_seq, ↓dn_set, ↓dn_inc, ↓dn_putf, ↓dn_putz, ↓dn_ast, ↓dn_exp, ↓dn_if, ↓dn_ret, ↓dn_retz, ↓dn_retv, ↓dn_brk, ↓dn_cont, ↓dn_cs, ↓dn_sw, ↓dn_pop32, ↓dn_pop64, ↓dn_aop, ↓dn_call, ↓dn_max, ↓dn_min, ↓dn_acp, ↓dn_i2l, ↓dn_args0, ↓dn_args1, og_pad, og_ent, og_rlt, og_rle, og_rgt, og_rge, og_req, og_rne, og_padd, og_psub, og_pmul, List.getD_cons_zero, List.getD_cons_succ, List.set_cons_zero, List.set_cons_succ, List.length_cons, List.length_nil, List.cons_append, List.nil_append, List.replicate, List.append_nil, Nat.reduceAdd, Nat.reduceSub, Nat.reduceEqDiff, if_true, if_false, reduceIte, Int.reduceAdd, Int.reduceSub, Int.reduceMul, Int.reduceNeg, Int.reduceLT, Int.reduceLE, Int.cast_ofNat_Int, true_or, or_true, true_and, and_true, false_and, List.mem_cons, List.not_mem_nil, or_false, false_or, ne_eq]
  have em := hc.1.1.2.2.1
  rw [em]
  unfold sOdds at hK
  have go : A 0 2 < 999 → (g = -1 ∨ (0 ≤ g ∧ g < A 0 0)) → m_Outlook_drawsThatFill [10, h 0 15 + 2, 100, g] h K := by
    intro hm hg
    rw [if_pos ⟨hm, hg⟩] at hK
    exact s_Out_drawsThatFill hc.2.2 hP (by omega) (by omega) hc.1 ho hm hg hK
  refine ⟨fun z => ?_, fun n1 => ⟨fun z => ?_, fun z => ?_⟩⟩
  · rw [if_neg (by omega)] at hK; exact hK h frS_rf
  · apply s_Yard_isGrave
    rw [hc.1.1.1]
    refine ⟨fun hx => ?_, fun hx => ?_⟩
    · have hg := iteP1 hx
      exact go (by omega) (Or.inr hg)
    · have hg := iteP0 hx
      rw [if_neg (fun q => q.2.elim z hg)] at hK; exact hK h frS_rf
  · exact go (by omega) (Or.inl (by omega))
end
end
