-- how many are alive, and what is kept
theorem sCnt_congr {f g : Int → Bool} : ∀ n : Nat, (∀ k : Nat, k < n → f k = g k) → sCnt f n = sCnt g n
  | 0, _ => rfl
  | n + 1, h => by rw [sCnt_s, sCnt_s, sCnt_congr n (fun k hk => h k (by omega)), h n (by omega)]
theorem sCnt_off {f g : Int → Bool} {p : Int} : ∀ n : Nat, 0 ≤ p → p < n → f p = true → g p = false → (∀ k : Int, k ≠ p → g k = f k) → sCnt g n = sCnt f n - 1
  | 0, h0, h1, _, _, _ => by omega
  | n + 1, h0, h1, hf, hg, hk => by
    rw [sCnt_s, sCnt_s]
    by_cases e : p = (n : Int)
    · subst e
      rw [hf, hg, sCnt_congr n (fun k hkn => hk k (by omega))]
      simp
    · rw [sCnt_off n h0 (by omega) hf hg hk, hk n (fun z => e z.symm)]
      split <;> omega
def okK (A : Yd) : Prop := A 0 3 + sCnt (sLive A) (sNp A) ≤ A 0 1
theorem sCnt_pos {f : Int → Bool} {p : Int} : ∀ n : Nat, 0 ≤ p → p < n → f p = true → 1 ≤ sCnt f n
  | 0, h0, h1, _ => by omega
  | n + 1, h0, h1, hf => by
    rw [sCnt_s]
    by_cases e : p = (n : Int)
    · subst e; rw [hf]; have := sCnt_le f n; simp; omega
    · have := sCnt_pos n h0 (by omega) hf
      split <;> omega
theorem okK_lt {A : Yd} {p : Int} (ho : okY A) (hk : okK A) (hp0 : 0 ≤ p) (hp1 : p < A 0 1) (hl : sLive A p = true) : A 0 3 < 8 := by
  have h1 := ho.1
  have h2 := sCnt_pos (f := sLive A) (sNp A) hp0 (by unfold sNp; omega) hl
  unfold okK at hk
  omega
theorem okK_bury {A : Yd} {p g how : Int} (ho : okY A) (hk : okK A) (hp0 : 0 ≤ p) (hp1 : p < A 0 1) (hl : sLive A p = true) : okK (sBury A p g how) := by
  have hlt := okK_lt ho hk hp0 hp1 hl
  have h1 := ho.1
  have sB := sameB_bury (A := A) (p := p) (g := g) (how := how)
  have e1 : sNp (sBury A p g how) = sNp A := sNp_sameB sB
  have e2 : sCnt (sLive (sBury A p g how)) (sNp A) = sCnt (sLive A) (sNp A) - 1 := by
    refine sCnt_off (p := p) _ hp0 (by unfold sNp; omega) hl ?_ (fun k hkp => ?_)
    · unfold sLive sBury; simp
    · unfold sLive sBury
      simp only [hkp]
      simp
  have e3 : sBury A p g how 0 3 = A 0 3 + 1 := by simp only [sBury]; grind
  unfold okK at hk ⊢
  rw [e1, e2, e3, sB.2.1]
  omega
/-- the reference's yard; what is kept is told while months come in truth -/
def isN (h : Hp) (A : Yd) : Prop := isM h A ∧ (h 1000 53 = 0 → isMK h A)
/-- months in the reference change these alone -/
def frM (h h' : Hp) : Prop := (∀ i k, i ≠ 1037 → i ≠ 1072 → (i = 1000 → k ≠ 48 ∧ k ≠ 51 ∧ k ≠ 52 ∧ k ≠ 54 ∧ k ≠ 97) → h' i k = h i k) ∧ (h 1000 53 ≠ 0 → ∀ k, 43 ≤ k → h' 1037 k = h 1037 k)
theorem frM_53 {h h' : Hp} (a : frM h h') : h' 1000 53 = h 1000 53 := a.1 _ _ (by decide) (by decide) (fun _ => by decide)
theorem frM_rf {h : Hp} : frM h h := ⟨fun _ _ _ _ _ => rfl, fun _ _ _ => rfl⟩
theorem frM_tr {h h1 h2 : Hp} (a : frM h h1) (b : frM h1 h2) : frM h h2 := ⟨fun i k p q r => (b.1 i k p q r).trans (a.1 i k p q r), fun z k hk => (b.2 (by rw [frM_53 a]; exact z) k hk).trans (a.2 z k hk)⟩
theorem frM_E {h h' : Hp} (a : frE h h') : frM h h' := ⟨fun i k _ q r => a i k q (fun z => by have := r z; omega), fun _ k _ => a _ _ (by decide) (fun z => absurd z (by decide))⟩
theorem hasM_M {h h' : Hp} {P : Pr} (hR : hasM h P) (hf : frM h h') : hasM h' P := hasM_fr hR (fun i k hi => hf.1 i k (by omega) (by omega) (fun z => by omega))
theorem isN_E {h h' : Hp} {A : Yd} (hn : isN h A) (hf : frE h h') : isN h' A := by
  have e : ∀ k, h' 1037 k = h 1037 k := fun k => hf _ _ (by decide) (fun z => absurd z (by decide))
  have e53 : h' 1000 53 = h 1000 53 := hf _ _ (by decide) (fun _ => by decide)
  refine ⟨isM_E hn.1 hf, fun z => ?_⟩
  have m := hn.2 (e53.symm.trans z)
  exact ⟨by rw [e]; exact m.1, fun k k0 k1 => by rw [e]; exact m.2 k k0 k1⟩
section
variable {h : Hp} {A : Yd} {P : Pr} {K : Int → Hp → Prop}
theorem r_goesInto {p g how : Int} (hn : isN h A) (ho : okY A) (hk : okK A) (hp0 : 0 ≤ p) (hp1 : p < A 0 1) (hl : sLive A p = true) (hg : g = -1 ∨ (0 ≤ g ∧ g < A 0 0))
    (hK : ∀ h', isN h' (sBury A p g how) → frM h h' → (∀ i k, i ≠ 1037 → h' i k = h i k) → K 0 h') : m_Model_goesInto [1000, p, g, how] h K := by
  have hm := hn.1
  have h6 := ho.1
  have hlt := okK_lt ho hk hp0 hp1 hl
  have m1 := hm.1
  have m2 := hm.2.1
  have m3 := hm.2.2
  unfold m_Model_goesInto
  simp only [og_den, og_pad, og_ent, og_loc, og_k, og_add, og_sub, og_mul, og_div, og_rem, og_bop, og_ladd, og_lsub, og_lmul, og_ldiv, og_lrem, og_land, og_i2l, og_l2i, og_neg, og_get, og_fix, og_ald, og_gld, og_yld, og_len, og_gln, og_cc, og_cb, og_and, og_or, og_not, og_cite, og_ec, og_ei, og_rlt, og_rle, og_rgt, og_rge, og_req, og_rne, og_skip, og_seq, og_set, og_inc, og_putf, og_putz, og_ast, og_exp, og_if, og_ret, og_retz, og_retv, og_brk, og_cont, og_cs, og_sw, og_pop32, og_pop64, og_aop, og_padd, og_psub, og_pmul, og_call, og_args, og_max, og_min, og_acp, List.getD_cons_zero, List.getD_cons_succ, List.set_cons_zero, List.set_cons_succ, List.length_cons, List.length_nil, List.cons_append, List.nil_append, List.replicate, List.append_nil, Nat.reduceAdd, Nat.reduceSub, Nat.reduceEqDiff, if_true, if_false, reduceIte, Int.reduceAdd, Int.reduceSub, Int.reduceMul, Int.reduceNeg, Int.reduceLT, Int.reduceLE, Int.cast_ofNat_Int, true_or, or_true, true_and, and_true, false_and, List.mem_cons, List.not_mem_nil, or_false, false_or, ne_eq, og_i32]
  repeat (refine And.intro (by omega) ?_)
  refine ⟨fun e1 h1 => e1 = [1000, p, g, how, 0] ∧ ∀ i k, h1 i k = if i = 1037 ∧ k = 19 + 3 * p then 0 else if i = 1037 ∧ k = 3 + 3 * g ∧ g ≠ -1 then p else h i k, ?_, ?_⟩
  · simp only [og_den, og_pad, og_ent, og_loc, og_k, og_add, og_sub, og_mul, og_div, og_rem, og_bop, og_ladd, og_lsub, og_lmul, og_ldiv, og_lrem, og_land, og_i2l, og_l2i, og_neg, og_get, og_fix, og_ald, og_gld, og_yld, og_len, og_gln, og_cc, og_cb, og_and, og_or, og_not, og_cite, og_ec, og_ei, og_rlt, og_rle, og_rgt, og_rge, og_req, og_rne, og_skip, og_seq, og_set, og_inc, og_putf, og_putz, og_ast, og_exp, og_if, og_ret, og_retz, og_retv, og_brk, og_cont, og_cs, og_sw, og_pop32, og_pop64, og_aop, og_padd, og_psub, og_pmul, og_call, og_args, og_max, og_min, og_acp, List.getD_cons_zero, List.getD_cons_succ, List.set_cons_zero, List.set_cons_succ, List.length_cons, List.length_nil, List.cons_append, List.nil_append, List.replicate, List.append_nil, Nat.reduceAdd, Nat.reduceSub, Nat.reduceEqDiff, if_true, if_false, reduceIte, Int.reduceAdd, Int.reduceSub, Int.reduceMul, Int.reduceNeg, Int.reduceLT, Int.reduceLE, Int.cast_ofNat_Int, true_or, or_true, true_and, and_true, false_and, List.mem_cons, List.not_mem_nil, or_false, false_or, ne_eq, og_i32]
    refine ⟨fun hx => ?_, fun hx => ?_⟩
    · refine ⟨by omega, by omega, by omega, by omega, fun i k => ?_⟩
      simp only [og_up]
      grind
    · intro i k
      simp only [og_up]
      grind
  · rintro e1 h1 ⟨rfl, hh⟩
    simp only [og_den, og_pad, og_ent, og_loc, og_k, og_add, og_sub, og_mul, og_div, og_rem, og_bop, og_ladd, og_lsub, og_lmul, og_ldiv, og_lrem, og_land, og_i2l, og_l2i, og_neg, og_get, og_fix, og_ald, og_gld, og_yld, og_len, og_gln, og_cc, og_cb, og_and, og_or, og_not, og_cite, og_ec, og_ei, og_rlt, og_rle, og_rgt, og_rge, og_req, og_rne, og_skip, og_seq, og_set, og_inc, og_putf, og_putz, og_ast, og_exp, og_if, og_ret, og_retz, og_retv, og_brk, og_cont, og_cs, og_sw, og_pop32, og_pop64, og_aop, og_padd, og_psub, og_pmul, og_call, og_args, og_max, og_min, og_acp, List.getD_cons_zero, List.getD_cons_succ, List.set_cons_zero, List.set_cons_succ, List.length_cons, List.length_nil, List.cons_append, List.nil_append, List.replicate, List.append_nil, Nat.reduceAdd, Nat.reduceSub, Nat.reduceEqDiff, if_true, if_false, reduceIte, Int.reduceAdd, Int.reduceSub, Int.reduceMul, Int.reduceNeg, Int.reduceLT, Int.reduceLE, Int.cast_ofNat_Int, true_or, or_true, true_and, and_true, false_and, List.mem_cons, List.not_mem_nil, or_false, false_or, ne_eq, og_i32]
    have hM1 : isM h1 (sBury A p g how) := by
      refine ⟨⟨?_, ?_, ?_⟩, fun k k0 k1 => ⟨?_, ?_, ?_, ?_⟩, fun k k0 k1 => ⟨?_, ?_, ?_, ?_⟩⟩ <;> simp only [hh, sBury] at * <;> grind
    have e53 : h1 1000 53 = h 1000 53 := by rw [hh]; grind
    rw [e53]
    refine ⟨fun hz => ?_, fun hz => ?_⟩
    · refine hK h1 ⟨hM1, fun z => absurd (e53.symm.trans z) hz⟩ ⟨fun i k a b c => ?_, fun _ k hk => ?_⟩ (fun i k hi => ?_)
      · rw [hh]; grind
      · rw [hh]; grind
      · rw [hh]; grind
    · have mk := hn.2 hz
      have e43 : h1 1037 43 = A 0 3 := by rw [hh, if_neg (by omega), if_neg (by omega)]; exact mk.1
      have e0 : h1 1037 0 = A 0 2 := by rw [hh, if_neg (by omega), if_neg (by omega)]; exact m1.2.2
      refine ⟨fun e2 h2 => e2 = [1000, p, g, how, 0] ∧ h2 = og_up h1 1037 43 (A 0 3 + 1), ?_, ?_⟩
      · simp only [og_den, og_pad, og_ent, og_loc, og_k, og_add, og_sub, og_mul, og_div, og_rem, og_bop, og_ladd, og_lsub, og_lmul, og_ldiv, og_lrem, og_land, og_i2l, og_l2i, og_neg, og_get, og_fix, og_ald, og_gld, og_yld, og_len, og_gln, og_cc, og_cb, og_and, og_or, og_not, og_cite, og_ec, og_ei, og_rlt, og_rle, og_rgt, og_rge, og_req, og_rne, og_skip, og_seq, og_set, og_inc, og_putf, og_putz, og_ast, og_exp, og_if, og_ret, og_retz, og_retv, og_brk, og_cont, og_cs, og_sw, og_pop32, og_pop64, og_aop, og_padd, og_psub, og_pmul, og_call, og_args, og_max, og_min, og_acp, List.getD_cons_zero, List.getD_cons_succ, List.set_cons_zero, List.set_cons_succ, List.length_cons, List.length_nil, List.cons_append, List.nil_append, List.replicate, List.append_nil, Nat.reduceAdd, Nat.reduceSub, Nat.reduceEqDiff, if_true, if_false, reduceIte, Int.reduceAdd, Int.reduceSub, Int.reduceMul, Int.reduceNeg, Int.reduceLT, Int.reduceLE, Int.cast_ofNat_Int, true_or, or_true, true_and, and_true, false_and, List.mem_cons, List.not_mem_nil, or_false, false_or, ne_eq, og_i32]
        rw [e43]
        refine ⟨fun z => by omega, fun _ => ⟨by omega, rfl⟩⟩
      · rintro e2 h2 ⟨rfl, rfl⟩
        simp only [og_den, og_pad, og_ent, og_loc, og_k, og_add, og_sub, og_mul, og_div, og_rem, og_bop, og_ladd, og_lsub, og_lmul, og_ldiv, og_lrem, og_land, og_i2l, og_l2i, og_neg, og_get, og_fix, og_ald, og_gld, og_yld, og_len, og_gln, og_cc, og_cb, og_and, og_or, og_not, og_cite, og_ec, og_ei, og_rlt, og_rle, og_rgt, og_rge, og_req, og_rne, og_skip, og_seq, og_set, og_inc, og_putf, og_putz, og_ast, og_exp, og_if, og_ret, og_retz, og_retv, og_brk, og_cont, og_cs, og_sw, og_pop32, og_pop64, og_aop, og_padd, og_psub, og_pmul, og_call, og_args, og_max, og_min, og_acp, List.getD_cons_zero, List.getD_cons_succ, List.set_cons_zero, List.set_cons_succ, List.length_cons, List.length_nil, List.cons_append, List.nil_append, List.replicate, List.append_nil, Nat.reduceAdd, Nat.reduceSub, Nat.reduceEqDiff, if_true, if_false, reduceIte, Int.reduceAdd, Int.reduceSub, Int.reduceMul, Int.reduceNeg, Int.reduceLT, Int.reduceLE, Int.cast_ofNat_Int, true_or, or_true, true_and, and_true, false_and, List.mem_cons, List.not_mem_nil, or_false, false_or, ne_eq, og_i32]
        rw [og_up_eq]
        have q0 : og_up h1 1037 43 (A 0 3 + 1) 1037 0 = A 0 2 := by rw [og_up_k (by decide)]; exact e0
        rw [q0]
        have q1 : 44 + 4 * (A 0 3 + 1) - 4 = 44 + 4 * A 0 3 := by omega
        rw [q1]
        repeat (refine And.intro (by omega) ?_)
        have fin : ∀ h3 : Hp, (∀ i k, h3 i k = if i = 1037 ∧ k = 43 then A 0 3 + 1 else if i = 1037 ∧ k = 44 + 4 * A 0 3 then A 0 2 else if i = 1037 ∧ k = 44 + 4 * A 0 3 + 1 then p else if i = 1037 ∧ k = 44 + 4 * A 0 3 + 2 then g else if i = 1037 ∧ k = 44 + 4 * A 0 3 + 3 then how else h1 i k) → K 0 h3 := by
          intro h3 hh3
          have lo : ∀ i k, (i ≠ 1037 ∨ k < 43) → h3 i k = h1 i k := by
            intro i k hik
            rw [hh3]
            grind
          refine hK h3 ⟨?_, fun _ => ?_⟩ ⟨fun i k a b c => ?_, fun z => absurd hz z⟩ (fun i k hi => ?_)
          · obtain ⟨b1, b2, b3⟩ := hM1
            have sB := sameB_bury (A := A) (p := p) (g := g) (how := how)
            have s0 := sB.1
            have s1 := sB.2.1
            refine ⟨⟨?_, ?_, ?_⟩, fun k k0 k1 => ⟨?_, ?_, ?_, ?_⟩, fun k k0 k1 => ⟨?_, ?_, ?_, ?_⟩⟩
            · rw [lo _ _ (by omega)]; exact b1.1
            · rw [lo _ _ (by omega)]; exact b1.2.1
            · rw [lo _ _ (by omega)]; exact b1.2.2
            · rw [lo _ _ (by omega)]; exact (b2 k k0 k1).1
            · rw [lo _ _ (by omega)]; exact (b2 k k0 k1).2.1
            · rw [lo _ _ (by omega)]; exact (b2 k k0 k1).2.2.1
            · rw [lo _ _ (by omega)]; exact (b2 k k0 k1).2.2.2
            · rw [lo _ _ (by omega)]; exact (b3 k k0 k1).1
            · rw [lo _ _ (by omega)]; exact (b3 k k0 k1).2.1
            · rw [lo _ _ (by omega)]; exact (b3 k k0 k1).2.2.1
            · rw [lo _ _ (by omega)]; exact (b3 k k0 k1).2.2.2
          · have e3 : sBury A p g how 0 3 = A 0 3 + 1 := by simp only [sBury]; grind
            refine ⟨by rw [hh3, if_pos ⟨rfl, rfl⟩, e3], fun k k0 k1 => ?_⟩
            rw [e3] at k1
            have hold := mk.2 k k0
            have h1k : h1 1037 (44 + k) = h 1037 (44 + k) := by rw [hh, if_neg (by omega), if_neg (by omega)]
            rw [hh3]
            simp only [sBury]
            grind
          · rw [lo i k (Or.inl a), hh]; grind
          · rw [lo i k (Or.inl hi), hh]; grind
        apply fin
        intro i k
        simp only [og_up]
        grind
end
