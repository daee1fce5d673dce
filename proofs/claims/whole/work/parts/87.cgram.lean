section
-- the class's grammar
def scr (h : Hp) (s : Int) (c : List Int) : Prop := h s 3 = c.length ∧ ∀ j : Nat, j < c.length → h (s + 1) (j : Int) = c.getD j 0
def st0 (h : Hp) (s : Int) (B : Int → Int) (n : Int) (r : PS) : Prop := match r with
  | .inl q => tokC h B n q.1 ∧ scr h s q.2
  | .inr z => fltC h z.1 z.2 ∧ 0 ≤ h s 3 ∧ h s 3 ≤ 1620
def lenOK (n : Int) (r : PS) : Prop := match r with
  | .inl q => 0 ≤ q.1 ∧ q.1 ≤ n ∧ (q.2.length : Int) ≤ q.1
  | .inr _ => True
def frG (s : Int) (h h' : Hp) : Prop := ∀ i k, i ≠ 3 → i ≠ s + 1 → ¬ (i = s ∧ k = 3) → h' i k = h i k
def ctG (h : Hp) (B : Int → Int) (n s pu : Int) : Prop := txC h B n ∧ (h 5 1 = s ∧ h 5 2 = pu) ∧ (s = 32 ∨ s = 42)
def OKg (B : Int → Int) (n s pu : Int) (m : og_Dn) (xs : List Int) (f : PT) : Prop := ∀ (h : Hp) (K : Int → Hp → Prop) (r : PS), ctG h B n s pu → st0 h s B n r → lenOK n r → (∀ h', st0 h' s B n (bnd r f) → frG s h h' → K 0 h') → m xs h K
theorem frG_rf {s : Int} {h : Hp} : frG s h h := fun _ _ _ _ _ => rfl
theorem frG_tr {s : Int} {h h1 h2 : Hp} (a : frG s h h1) (b : frG s h1 h2) : frG s h h2 := fun i k p q r => (b i k p q r).trans (a i k p q r)
theorem frG_3 {s : Int} {h h' : Hp} (a : ∀ i k, i ≠ 3 → h' i k = h i k) : frG s h h' := fun i k p _ _ => a i k p
theorem ctG_fr {h h' : Hp} {B : Int → Int} {n s pu : Int} (hc : ctG h B n s pu) (hf : frG s h h') : ctG h' B n s pu := by
  obtain ⟨a, ⟨b1, b2⟩, c⟩ := hc
  exact ⟨txC_fr a (fun i k hi => hf i k (by omega) (by omega) (by omega)), ⟨by rw [hf _ _ (by decide) (by omega) (by omega)]; exact b1, by rw [hf _ _ (by decide) (by omega) (by omega)]; exact b2⟩, c⟩
theorem len_bnd {n : Int} {r : PS} {f : PT} (hf : Adv n f) (hl : lenOK n r) : lenOK n (bnd r f) := by
  cases r with
  | inr z => exact trivial
  | inl q =>
    have ha := hf q.1 q.2 hl.1 hl.2.1
    have hlen := hl.2.2
    have hl0 := hl.1
    show lenOK n (f q.1 q.2)
    revert ha
    generalize f q.1 q.2 = r2
    intro ha
    cases r2 with
    | inr z => exact trivial
    | inl q2 => exact ⟨by have := ha.1; omega, ha.2.1, by have := ha.2.2; omega⟩
section
variable {h h0 h' : Hp} {B : Int → Int} {n s pu a : Int} {c : List Int} {r : PS} {K : Int → Hp → Prop}
theorem k_addNumber {v : Int} (h0 : 0 ≤ h s 3 ∧ h s 3 ≤ 1620) (hs : s = 32 ∨ s = 42) (hK : ∀ h', (h s 3 < 1620 → h' s 3 = h s 3 + 1 ∧ h' (s + 1) (h s 3) = v ∧ ∀ k, k ≠ h s 3 → h' (s + 1) k = h (s + 1) k) → (0 ≤ h' s 3 ∧ h' s 3 ≤ 1620) → (∀ i k, i ≠ s + 1 → ¬ (i = s ∧ k = 3) → h' i k = h i k) → K 0 h') : m_Script_addNumber [s, v] h K := by
  unfold m_Script_addNumber
  simp -implicitDefEqProofs only [↓dn_den, ↓dn_loc, ↓dn_k, ↓dn_add, ↓dn_sub, ↓dn_mul, ↓dn_div, ↓dn_rem, ↓dn_bop, ↓dn_ladd, ↓dn_lsub, ↓dn_lmul, ↓dn_ldiv, ↓dn_lrem, ↓dn_land, ↓dn_l2i, ↓dn_neg, ↓dn_get, ↓dn_fix, ↓dn_ald, ↓dn_gld, ↓dn_yld, ↓dn_len, ↓dn_gln, ↓dn_cc, ↓dn_cb, ↓dn_and, ↓dn_or, ↓dn_not, ↓dn_cite, ↓dn_ec, ↓dn_ei, ↓dn_skip, ↓dn_seq, ↓dn_set, ↓dn_inc, ↓dn_putf, ↓dn_putz, ↓dn_ast, ↓dn_exp, ↓dn_if, ↓dn_ret, ↓dn_retz, ↓dn_retv, ↓dn_brk, ↓dn_cont, ↓dn_cs, ↓dn_sw, ↓dn_pop32, ↓dn_pop64, ↓dn_aop, ↓dn_call, ↓dn_max, ↓dn_min, ↓dn_acp, ↓dn_i2l, ↓dn_args0, ↓dn_args1, og_pad, og_ent, og_rlt, og_rle, og_rgt, og_rge, og_req, og_rne, og_padd, og_psub, og_pmul, List.getD_cons_zero, List.getD_cons_succ, List.set_cons_zero, List.set_cons_succ, List.length_cons, List.length_nil, List.cons_append, List.nil_append, List.replicate, List.append_nil, Nat.reduceAdd, Nat.reduceSub, Nat.reduceEqDiff, if_true, if_false, reduceIte, Int.reduceAdd, Int.reduceSub, Int.reduceMul, Int.reduceNeg, Int.reduceLT, Int.reduceLE, Int.cast_ofNat_Int, true_or, or_true, true_and, and_true, false_and, List.mem_cons, List.not_mem_nil, or_false, false_or, ne_eq, og_i32]
  refine ⟨fun z => ?_, fun z => hK h (fun y => absurd y z) h0 (fun _ _ _ _ => rfl)⟩
  rw [og_up_i (by omega)]
  repeat (refine And.intro (by omega) ?_)
  refine hK _ (fun _ => ⟨og_up_eq, by rw [og_up_i (by omega), og_up_eq], fun k hk => by rw [og_up_i (by omega), og_up_k hk]⟩) (by rw [og_up_eq]; omega) (fun i k hi hk => ?_)
  unfold og_up
  rw [if_neg hk, if_neg (fun z => hi z.1)]
theorem scr_add {v : Int} (hs : scr h s c) (h1 : h' s 3 = h s 3 + 1) (h2 : h' (s + 1) (h s 3) = v) (h3 : ∀ k, k ≠ h s 3 → h' (s + 1) k = h (s + 1) k) : scr h' s (c ++ [v]) := by
  obtain ⟨a, b⟩ := hs
  rw [a] at h1 h2 h3
  refine ⟨by rw [h1, List.length_append]; simp, fun j hj => ?_⟩
  rw [List.length_append] at hj
  simp at hj
  rw [List.getD_eq_getElem?_getD]
  by_cases e : j < c.length
  · rw [h3 _ (by omega), b j e, List.getElem?_append_left e, List.getD_eq_getElem?_getD]
  · have : j = c.length := by omega
    subst this
    rw [h2, List.getElem?_append_right (Nat.le_refl _), Nat.sub_self]
    rfl
theorem st0_size (hs : st0 h s B n r) (hl : lenOK n r) (hn : n ≤ 1600) : 0 ≤ h s 3 ∧ h s 3 ≤ 1620 := by
  cases r with
  | inl q => have := hs.2.1; have := hl.2; omega
  | inr z => exact hs.2
theorem st0_fr3 (hs : st0 h s B n r) (hss : s = 32 ∨ s = 42) (h3 : ∀ k, h' 3 k = h 3 k) (h4 : h' s 3 = h s 3) (h5 : ∀ k, h' (s + 1) k = h (s + 1) k) : st0 h' s B n r := by
  cases r with
  | inl q =>
    obtain ⟨⟨a, b, c, d, e, f⟩, g1, g2⟩ := hs
    refine ⟨⟨a, ?_, ?_, ?_, ?_, ?_⟩, ?_, fun j hj => ?_⟩
    · rw [h3, h3]; exact b
    · rw [h3, h3, h3]; exact c
    · rw [h3, h3, h3]; exact d
    · rw [h3, h3]; exact e
    · rw [h3]; exact f
    · rw [h4]; exact g1
    · rw [h5]; exact g2 j hj
  | inr z =>
    obtain ⟨⟨a, b, c, d⟩, e⟩ := hs
    exact ⟨⟨by rw [h3]; exact a, by rw [h3]; exact b, c, by rw [h3]; exact d⟩, by rw [h4]; exact e⟩
theorem g_addN {v : Int} (hss : s = 32 ∨ s = 42) (hn : n ≤ 1600) (hs : st0 h s B n r) (hl : lenOK n r) (hK : ∀ h', st0 h' s B n (bnd r (gAdd v)) → frG s h h' → K 0 h') : m_Script_addNumber [s, v] h K := by
  refine k_addNumber (st0_size hs hl hn) hss (fun h1 a b f => ?_)
  have fg : frG s h h1 := fun i k _ q r => f i k q r
  cases r with
  | inr z => exact hK h1 ⟨⟨by rw [f _ _ (by omega) (by omega)]; exact hs.1.1, by rw [f _ _ (by omega) (by omega)]; exact hs.1.2.1, hs.1.2.2.1, by rw [f _ _ (by omega) (by omega)]; exact hs.1.2.2.2⟩, b⟩ fg
  | inl q =>
    have e3 := hs.2.1
    have hl2 := hl.2
    have hlt : h s 3 < 1620 := by omega
    have a := a hlt
    obtain ⟨⟨t1, t2, t3, t4, t5, t6⟩, g⟩ := hs
    have z : ∀ k, h1 3 k = h 3 k := fun k => f _ _ (by omega) (by omega)
    refine hK h1 ⟨⟨t1, ?_, ?_, ?_, ?_, ?_⟩, scr_add g a.1 a.2.1 a.2.2⟩ fg
    · rw [z, z]; exact t2
    · rw [z, z, z]; exact t3
    · rw [z, z, z]; exact t4
    · rw [z, z]; exact t5
    · rw [z]; exact t6
theorem g_add {x : Int} (hx : -2147483647 ≤ x ∧ x ≤ 2147483000) (hss : s = 32 ∨ s = 42) (hn : n ≤ 1600) (hs : st0 h s B n r) (hl : lenOK n r) (hK : ∀ h', st0 h' s B n (bnd r (gAdd (-1 - x))) → frG s h h' → K 0 h') : m_Script_addDeed [s, x] h K := by
  unfold m_Script_addDeed
  simp -implicitDefEqProofs only [↓dn_den, ↓dn_loc, ↓dn_k, ↓dn_add, ↓dn_sub, ↓dn_mul, ↓dn_div, ↓dn_rem, ↓dn_bop, ↓dn_ladd, ↓dn_lsub, ↓dn_lmul, ↓dn_ldiv, ↓dn_lrem, ↓dn_land, ↓dn_l2i, ↓dn_neg, ↓dn_get, ↓dn_fix, ↓dn_ald, ↓dn_gld, ↓dn_yld, ↓dn_len, ↓dn_gln, ↓dn_cc, ↓dn_cb, ↓dn_and, ↓dn_or, ↓dn_not, ↓dn_cite, ↓dn_ec, ↓dn_ei, ↓dn_skip, ↓dn_seq, ↓dn_set, ↓dn_inc, ↓dn_putf, ↓dn_putz, ↓dn_ast, ↓dn_exp, ↓dn_if, ↓dn_ret, ↓dn_retz, ↓dn_retv, ↓dn_brk, ↓dn_cont, ↓dn_cs, ↓dn_sw, ↓dn_pop32, ↓dn_pop64, ↓dn_aop, ↓dn_call, ↓dn_max, ↓dn_min, ↓dn_acp, ↓dn_i2l, ↓dn_args0, ↓dn_args1, og_pad, og_ent, og_rlt, og_rle, og_rgt, og_rge, og_req, og_rne, og_padd, og_psub, og_pmul, List.getD_cons_zero, List.getD_cons_succ, List.set_cons_zero, List.set_cons_succ, List.length_cons, List.length_nil, List.cons_append, List.nil_append, List.replicate, List.append_nil, Nat.reduceAdd, Nat.reduceSub, Nat.reduceEqDiff, if_true, if_false, reduceIte, Int.reduceAdd, Int.reduceSub, Int.reduceMul, Int.reduceNeg, Int.reduceLT, Int.reduceLE, Int.cast_ofNat_Int, true_or, or_true, true_and, and_true, false_and, List.mem_cons, List.not_mem_nil, or_false, false_or, ne_eq, og_i32]
  exact ⟨by omega, g_addN hss hn hs hl hK⟩
theorem g_step (hc : ctG h B n s pu) (hs : st0 h s B n (.inl (a, c))) (hK : ∀ h', st0 h' s B n (.inl (tE B n a, c)) → frG s h h' → K 0 h') : m_Tokens_step [3] h K := by
  obtain ⟨⟨t1, t2, t3, -⟩, g⟩ := hs
  have te := tE_le (B := B) (n := n) (a := a) t1.2
  have tg := tE_ge B n a
  have ts := tS_sp B n a
  have t1' : 0 ≤ a ∧ a ≤ n := t1
  have hss := hc.2.2
  refine k_step (a := tE B n a) hc.1 (by omega) t3.2.2 t2.1 t2.2 (fun h1 tk f => hK h1 ⟨tk, ?_, fun j hj => ?_⟩ (frG_3 f))
  · rw [f _ _ (by omega)]; exact g.1
  · rw [f _ _ (by omega)]; exact g.2 j hj
theorem g_fail {k : Int} (hk : k ≠ 0) (hc : ctG h B n s pu) (hl : lenOK n (.inl (a, c))) (hs : st0 h s B n (.inl (a, c))) (hK : ∀ h', st0 h' s B n (.inr (k, tS B n a)) → frG s h h' → K 0 h') : m_Tokens_fail [3, k] h K := by
  have sz := st0_size hs hl hc.1.2.2.2.1
  obtain ⟨⟨t1, t2, t3, -⟩, g⟩ := hs
  have hss := hc.2.2
  refine k_fail hk t2.1 (fun h1 fl f => hK h1 ⟨?_, ?_⟩ (frG_3 f))
  · rw [t3.2.1] at fl; exact fl
  · rw [f _ _ (by omega)]; exact sz
theorem g_failF {k : Int} {z : Int × Int} (hs : st0 h s B n (.inr z)) (hK : K 0 h) : m_Tokens_fail [3, k] h K := k_failF (by rw [hs.1.1]; exact hs.1.2.2.1) hK
theorem sg_iff {x : Int} (hx : 0 ≤ x) (ht : tokC h B n a) : (h 3 2 = 3 ∧ h 3 5 = x) ↔ sgn B n a = x := by
  obtain ⟨t1, t2, t3, -, -, t6⟩ := ht
  unfold sgn
  rw [t3.1]
  constructor
  · rintro ⟨p, q⟩; rw [if_pos p, ← t6 p]; exact q
  · intro e
    by_cases z : tK B n a = 3
    · rw [if_pos z] at e; exact ⟨z, (t6 z).trans e⟩
    · rw [if_neg z] at e; omega
theorem wd_iff {x : Int} (hx : 0 ≤ x) (ht : tokC h B n a) : (h 3 2 = 1 ∧ h 3 5 = x) ↔ wrd B n a = x := by
  obtain ⟨t1, t2, t3, t4, -, -⟩ := ht
  unfold wrd
  rw [t3.1]
  constructor
  · rintro ⟨p, q⟩; rw [if_pos p, ← (t4 p).1]; exact q
  · intro e
    by_cases z : tK B n a = 1
    · rw [if_pos z] at e; exact ⟨z, (t4 z).1.trans e⟩
    · rw [if_neg z] at e; omega
theorem g_isSign {x : Int} (hx : 0 ≤ x) (hs : st0 h s B n (.inl (a, c))) (hK : K (if sgn B n a = x then 1 else 0) h) : m_Tokens_isSign [3, x] h K := by
  refine k_isSign ?_
  by_cases z : sgn B n a = x
  · rw [if_pos z] at hK; rw [if_pos ((sg_iff hx hs.1).mpr z)]; exact hK
  · rw [if_neg z] at hK; rw [if_neg (fun q => z ((sg_iff hx hs.1).mp q))]; exact hK
theorem g_isSignF {x : Int} {z : Int × Int} (hs : st0 h s B n (.inr z)) (hK : K 0 h) : m_Tokens_isSign [3, x] h K := by
  refine k_isSign ?_
  rw [if_neg (fun q => by have := hs.1.2.2.2; omega)]; exact hK
theorem g_isWord {x : Int} (hx : 0 ≤ x) (hs : st0 h s B n (.inl (a, c))) (hK : K (if wrd B n a = x then 1 else 0) h) : m_Tokens_isWord [3, x] h K := by
  refine k_isWord ?_
  by_cases z : wrd B n a = x
  · rw [if_pos z] at hK; rw [if_pos ((wd_iff hx hs.1).mpr z)]; exact hK
  · rw [if_neg z] at hK; rw [if_neg (fun q => z ((wd_iff hx hs.1).mp q))]; exact hK
theorem g_isWordF {x : Int} {z : Int × Int} (hs : st0 h s B n (.inr z)) (hK : K 0 h) : m_Tokens_isWord [3, x] h K := by
  refine k_isWord ?_
  rw [if_neg (fun q => by have := hs.1.2.2.2; omega)]; exact hK
theorem g_takeSign {x : Int} (hx : 0 ≤ x) : OKg B n s pu m_Tokens_takeSign [3, x] (gTk B n x) := by
  intro h K r hc hs hl hK
  unfold m_Tokens_takeSign
  simp -implicitDefEqProofs only [↓dn_den, ↓dn_loc, ↓dn_k, ↓dn_add, ↓dn_sub, ↓dn_mul, ↓dn_div, ↓dn_rem, ↓dn_bop, ↓dn_ladd, ↓dn_lsub, ↓dn_lmul, ↓dn_ldiv, ↓dn_lrem, ↓dn_land, ↓dn_l2i, ↓dn_neg, ↓dn_get, ↓dn_fix, ↓dn_ald, ↓dn_gld, ↓dn_yld, ↓dn_len, ↓dn_gln, ↓dn_cc, ↓dn_cb, ↓dn_and, ↓dn_or, ↓dn_not, ↓dn_cite, ↓dn_ec, ↓dn_ei, ↓dn_skip, ↓dn_seq, ↓dn_set, ↓dn_inc, ↓dn_putf, ↓dn_putz, ↓dn_ast, ↓dn_exp, ↓dn_if, ↓dn_ret, ↓dn_retz, ↓dn_retv, ↓dn_brk, ↓dn_cont, ↓dn_cs, ↓dn_sw, ↓dn_pop32, ↓dn_pop64, ↓dn_aop, ↓dn_call, ↓dn_max, ↓dn_min, ↓dn_acp, ↓dn_i2l, ↓dn_args0, ↓dn_args1, og_pad, og_ent, og_rlt, og_rle, og_rgt, og_rge, og_req, og_rne, og_padd, og_psub, og_pmul, List.getD_cons_zero, List.getD_cons_succ, List.set_cons_zero, List.set_cons_succ, List.length_cons, List.length_nil, List.cons_append, List.nil_append, List.replicate, List.append_nil, Nat.reduceAdd, Nat.reduceSub, Nat.reduceEqDiff, if_true, if_false, reduceIte, Int.reduceAdd, Int.reduceSub, Int.reduceMul, Int.reduceNeg, Int.reduceLT, Int.reduceLE, Int.cast_ofNat_Int, true_or, or_true, true_and, and_true, false_and, List.mem_cons, List.not_mem_nil, or_false, false_or, ne_eq]
  cases r with
  | inr z =>
    refine g_isSignF hs ?_
    refine ⟨fun q => absurd (by trivial) q, fun _ => g_failF hs (hK h hs frG_rf)⟩
  | inl q =>
    obtain ⟨a, c⟩ := q
    rw [bnd_l] at hK
    unfold gTk at hK
    refine g_isSign hx hs ⟨fun z => ?_, fun z => ?_⟩
    · rw [if_pos (iteP1 z)] at hK
      exact g_step hc hs hK
    · rw [if_neg (iteP0 z)] at hK
      exact g_fail (by decide) hc hl hs hK
theorem g_opens {o : Int} (ho : 0 ≤ o ∧ o ≤ 6) (hc : ctG h B n s pu) (hl : lenOK n (.inl (a, c))) (hs : st0 h s B n (.inl (a, c))) (hK1 : o < 6 → ∀ h', st0 h' s B n (.inl (tE B n a, c)) → frG s h h' → K 1 h') (hK0 : ¬ o < 6 → ∀ h', st0 h' s B n (.inr (4, tS B n a)) → frG s h h' → K 0 h') : m_Grammar_opens [5, o] h K := by
  unfold m_Grammar_opens
  simp -implicitDefEqProofs only [↓dn_den, ↓dn_loc, ↓dn_k, ↓dn_add, ↓dn_sub, ↓dn_mul, ↓dn_div, ↓dn_rem, ↓dn_bop, ↓dn_ladd, ↓dn_lsub, ↓dn_lmul, ↓dn_ldiv, ↓dn_lrem, ↓dn_land, ↓dn_l2i, ↓dn_neg, ↓dn_get, ↓dn_fix, ↓dn_ald, ↓dn_gld, ↓dn_yld, ↓dn_len, ↓dn_gln, ↓dn_cc, ↓dn_cb, ↓dn_and, ↓dn_or, ↓dn_not, ↓dn_cite, ↓dn_ec, ↓dn_ei, ↓dn_skip, ↓dn_seq, ↓dn_set, ↓dn_inc, ↓dn_putf, ↓dn_putz, ↓dn_ast, ↓dn_exp, ↓dn_if, ↓dn_ret, ↓dn_retz, ↓dn_retv, ↓dn_brk, ↓dn_cont, ↓dn_cs, ↓dn_sw, ↓dn_pop32, ↓dn_pop64, ↓dn_aop, ↓dn_call, ↓dn_max, ↓dn_min, ↓dn_acp, ↓dn_i2l, ↓dn_args0, ↓dn_args1, og_pad, og_ent, og_rlt, og_rle, og_rgt, og_rge, og_req, og_rne, og_padd, og_psub, og_pmul, List.getD_cons_zero, List.getD_cons_succ, List.set_cons_zero, List.set_cons_succ, List.length_cons, List.length_nil, List.cons_append, List.nil_append, List.replicate, List.append_nil, Nat.reduceAdd, Nat.reduceSub, Nat.reduceEqDiff, if_true, if_false, reduceIte, Int.reduceAdd, Int.reduceSub, Int.reduceMul, Int.reduceNeg, Int.reduceLT, Int.reduceLE, Int.cast_ofNat_Int, true_or, or_true, true_and, and_true, false_and, List.mem_cons, List.not_mem_nil, or_false, false_or, ne_eq]
  refine ⟨fun z => ?_, fun z => ?_⟩
  · exact g_fail (by decide) hc hl hs (fun h1 a b => by
      have := hK0 (by omega) h1 a b
      first | exact this | exact ⟨by decide, this⟩)
  · exact g_step hc hs (fun h1 a b => by
      have := hK1 (by omega) h1 a b
      first | exact this | exact ⟨by decide, this⟩)
theorem g_isKnown {w : Int} (hc : ctG h B n s pu) (hK : K (if gKn pu w = true then 1 else 0) h) : m_Grammar_isKnown [5, w] h K := by
  unfold m_Grammar_isKnown
  simp -implicitDefEqProofs only [↓dn_den, ↓dn_loc, ↓dn_k, ↓dn_add, ↓dn_sub, ↓dn_mul, ↓dn_div, ↓dn_rem, ↓dn_bop, ↓dn_ladd, ↓dn_lsub, ↓dn_lmul, ↓dn_ldiv, ↓dn_lrem, ↓dn_land, ↓dn_l2i, ↓dn_neg, ↓dn_get, ↓dn_fix, ↓dn_ald, ↓dn_gld, ↓dn_yld, ↓dn_len, ↓dn_gln, ↓dn_cc, ↓dn_cb, ↓dn_and, ↓dn_or, ↓dn_not, ↓dn_cite, ↓dn_ec, ↓dn_ei, ↓dn_skip, ↓dn_seq, ↓dn_set, ↓dn_inc, ↓dn_putf, ↓dn_putz, ↓dn_ast, ↓dn_exp, ↓dn_if, ↓dn_ret, ↓dn_retz, ↓dn_retv, ↓dn_brk, ↓dn_cont, ↓dn_cs, ↓dn_sw, ↓dn_pop32, ↓dn_pop64, ↓dn_aop, ↓dn_call, ↓dn_max, ↓dn_min, ↓dn_acp, ↓dn_i2l, ↓dn_args0, ↓dn_args1, og_pad, og_ent, og_rlt, og_rle, og_rgt, og_rge, og_req, og_rne, og_padd, og_psub, og_pmul, List.getD_cons_zero, List.getD_cons_succ, List.set_cons_zero, List.set_cons_succ, List.length_cons, List.length_nil, List.cons_append, List.nil_append, List.replicate, List.append_nil, Nat.reduceAdd, Nat.reduceSub, Nat.reduceEqDiff, if_true, if_false, reduceIte, Int.reduceAdd, Int.reduceSub, Int.reduceMul, Int.reduceNeg, Int.reduceLT, Int.reduceLE, Int.cast_ofNat_Int, true_or, or_true, true_and, and_true, false_and, List.mem_cons, List.not_mem_nil, or_false, false_or, ne_eq]
  rw [hc.2.1.2]
  have yes : gKn pu w = true → K 1 h := fun z => by rw [if_pos z] at hK; exact hK
  have no : gKn pu w = false → K 0 h := fun z => by rw [if_neg (by rw [z]; decide)] at hK; exact hK
  refine ⟨fun z => ?_, fun z => ⟨fun y => ⟨fun x => ?_, fun x => ?_⟩, fun y => ⟨fun x => ⟨fun v => ?_, fun v => ?_⟩, fun x => ⟨fun v => ⟨fun t => ?_, fun t => ?_⟩, fun v => ?_⟩⟩⟩⟩
  · have := yes (by unfold gKn; rcases z with z | z | z | z <;> subst z <;> rfl)
    first | exact this | exact ⟨by decide, this⟩
  · have := yes (by unfold gKn; subst y x; rfl)
    first | exact this | exact ⟨by decide, this⟩
  · have := no (by unfold gKn; subst y; simp [x])
    first | exact this | exact ⟨by decide, this⟩
  · have := yes (by unfold gKn; subst x v; rfl)
    first | exact this | exact ⟨by decide, this⟩
  · have := no (by unfold gKn; subst x; simp [v])
    first | exact this | exact ⟨by decide, this⟩
  · have := yes (by unfold gKn; subst t; rcases v with v | v <;> subst v <;> rfl)
    first | exact this | exact ⟨by decide, this⟩
  · have := no (by unfold gKn; rcases v with v | v <;> subst v <;> simp [t])
    first | exact this | exact ⟨by decide, this⟩
  · have := no (by
      unfold gKn
      simp only [not_or] at z v
      simp [z, y, x, v])
    first | exact this | exact ⟨by decide, this⟩
theorem g_takeNum (hc : ctG h B n s pu) (hl : lenOK n (.inl (a, c))) (hs : st0 h s B n (.inl (a, c))) (hk : tK B n a = 2) (hK1 : ¬ 4 < tE B n a - tS B n a → ∀ h', st0 h' s B n (.inl (tE B n a, c)) → frG s h h' → K (tN B n a) h') (hK0 : 4 < tE B n a - tS B n a → ∀ h', st0 h' s B n (.inr (1, tS B n a + 4)) → frG s h h' → K 0 h') : m_Tokens_takeNumber [3, 0, 9999] h K := by
  have sz := st0_size hs hl hc.1.2.2.2.1
  have hs' := hs
  obtain ⟨⟨t1, t2, t3, t4, t5, t6⟩, g⟩ := hs
  have t1' : 0 ≤ a ∧ a ≤ n := t1
  have hss := hc.2.2
  have t5 := t5 hk
  dsimp only at t5
  have tsp := tS_sp B n a
  have hlt := (num_go hk).2
  have hdig : isD (B (tS B n a)) = true ∧ tE B n a = tDe B n (tS B n a) := by
    unfold tK at hk
    rw [if_pos hlt] at hk
    have hE : tE B n a = if isL (B (tS B n a)) = true then tLe B n (tS B n a) else if isD (B (tS B n a)) = true then tDe B n (tS B n a) else tS B n a + 1 := by unfold tE; rw [if_pos hlt]
    by_cases q : isL (B (tS B n a)) = true
    · rw [if_pos q] at hk; split at hk <;> omega
    · rw [if_neg q] at hk hE
      by_cases q2 : isD (B (tS B n a)) = true
      · rw [if_pos q2] at hE; exact ⟨q2, hE⟩
      · rw [if_neg q2] at hk; omega
  have hrun := (rn_sp (fun k => isD (B k)) n (tS B n a)).2.1
  have rg : 0 ≤ tN B n a ∧ tN B n a ≤ 9999 := by
    unfold tN tL
    refine dV_rg _ (by omega) (fun j hj => (hrun (tS B n a + j) (by omega) ?_).2)
    have : rn (fun k => isD (B k)) n (tS B n a) = tE B n a := hdig.2.symm
    rw [this]
    omega
  unfold m_Tokens_takeNumber
  simp -implicitDefEqProofs only [↓dn_den, ↓dn_loc, ↓dn_k, ↓dn_add, ↓dn_sub, ↓dn_mul, ↓dn_div, ↓dn_rem, ↓dn_bop, ↓dn_ladd, ↓dn_lsub, ↓dn_lmul, ↓dn_ldiv, ↓dn_lrem, ↓dn_land, ↓dn_l2i, ↓dn_neg, ↓dn_get, ↓dn_fix, ↓dn_ald, ↓dn_gld, ↓dn_yld, ↓dn_len, ↓dn_gln, ↓dn_cc, ↓dn_cb, ↓dn_and, ↓dn_or, ↓dn_not, ↓dn_cite, ↓dn_ec, ↓dn_ei, ↓dn_skip, ↓dn_seq, ↓dn_set, ↓dn_inc, ↓dn_putf, ↓dn_putz, ↓dn_ast, ↓dn_exp, ↓dn_if, ↓dn_ret, ↓dn_retz, ↓dn_retv, ↓dn_brk, ↓dn_cont, ↓dn_cs, ↓dn_sw, ↓dn_pop32, ↓dn_pop64, ↓dn_aop, ↓dn_call, ↓dn_max, ↓dn_min, ↓dn_acp, ↓dn_i2l, ↓dn_args0, ↓dn_args1, og_pad, og_ent, og_rlt, og_rle, og_rgt, og_rge, og_req, og_rne, og_padd, og_psub, og_pmul, List.getD_cons_zero, List.getD_cons_succ, List.set_cons_zero, List.set_cons_succ, List.length_cons, List.length_nil, List.cons_append, List.nil_append, List.replicate, List.append_nil, Nat.reduceAdd, Nat.reduceSub, Nat.reduceEqDiff, if_true, if_false, reduceIte, Int.reduceAdd, Int.reduceSub, Int.reduceMul, Int.reduceNeg, Int.reduceLT, Int.reduceLE, Int.cast_ofNat_Int, true_or, or_true, true_and, and_true, false_and, List.mem_cons, List.not_mem_nil, or_false, false_or, ne_eq, og_i32]
  rw [t5.1]
  refine ⟨fun e1 h1 => e1 = [3, 0, 9999, tN B n a] ∧ 4 < tE B n a - tS B n a ∧ st0 h1 s B n (.inr (1, tS B n a + 4)) ∧ frG s h h1, ?_, ?_⟩
  · simp -implicitDefEqProofs only [↓dn_den, ↓dn_loc, ↓dn_k, ↓dn_add, ↓dn_sub, ↓dn_mul, ↓dn_div, ↓dn_rem, ↓dn_bop, ↓dn_ladd, ↓dn_lsub, ↓dn_lmul, ↓dn_ldiv, ↓dn_lrem, ↓dn_land, ↓dn_l2i, ↓dn_neg, ↓dn_get, ↓dn_fix, ↓dn_ald, ↓dn_gld, ↓dn_yld, ↓dn_len, ↓dn_gln, ↓dn_cc, ↓dn_cb, ↓dn_and, ↓dn_or, ↓dn_not, ↓dn_cite, ↓dn_ec, ↓dn_ei, ↓dn_skip, ↓dn_seq, ↓dn_set, ↓dn_inc, ↓dn_putf, ↓dn_putz, ↓dn_ast, ↓dn_exp, ↓dn_if, ↓dn_ret, ↓dn_retz, ↓dn_retv, ↓dn_brk, ↓dn_cont, ↓dn_cs, ↓dn_sw, ↓dn_pop32, ↓dn_pop64, ↓dn_aop, ↓dn_call, ↓dn_max, ↓dn_min, ↓dn_acp, ↓dn_i2l, ↓dn_args0, ↓dn_args1, og_pad, og_ent, og_rlt, og_rle, og_rgt, og_rge, og_req, og_rne, og_padd, og_psub, og_pmul, List.getD_cons_zero, List.getD_cons_succ, List.set_cons_zero, List.set_cons_succ, List.length_cons, List.length_nil, List.cons_append, List.nil_append, List.replicate, List.append_nil, Nat.reduceAdd, Nat.reduceSub, Nat.reduceEqDiff, if_true, if_false, reduceIte, Int.reduceAdd, Int.reduceSub, Int.reduceMul, Int.reduceNeg, Int.reduceLT, Int.reduceLE, Int.cast_ofNat_Int, true_or, or_true, true_and, and_true, false_and, List.mem_cons, List.not_mem_nil, or_false, false_or, ne_eq, og_i32]
    rw [t3.1, t5.2, t3.2.1]
    dsimp only
    rw [hk]
    refine ⟨fun z => absurd (by trivial) z, fun _ => ⟨fun z => ?_, fun z => ⟨fun y => by omega, fun _ => ⟨fun y => by omega, fun _ => ?_⟩⟩⟩⟩
    · have te := tE_le (B := B) (n := n) (a := a) t1'.2
      have hn16 := hc.1.2.2.2.1
      refine ⟨by omega, k_failAt (by decide) t2.1 (fun h1 fl f => ⟨by omega, ⟨fl, ?_⟩, frG_3 f⟩)⟩
      rw [f _ _ (by omega)]; exact sz
    · exact g_step hc hs' (fun h1 a1 b1 => hK1 (by omega) h1 a1 b1)
  · rintro e1 h1 ⟨rfl, z, a1, b1⟩
    simp -implicitDefEqProofs only [↓dn_den, ↓dn_loc, ↓dn_k, ↓dn_add, ↓dn_sub, ↓dn_mul, ↓dn_div, ↓dn_rem, ↓dn_bop, ↓dn_ladd, ↓dn_lsub, ↓dn_lmul, ↓dn_ldiv, ↓dn_lrem, ↓dn_land, ↓dn_l2i, ↓dn_neg, ↓dn_get, ↓dn_fix, ↓dn_ald, ↓dn_gld, ↓dn_yld, ↓dn_len, ↓dn_gln, ↓dn_cc, ↓dn_cb, ↓dn_and, ↓dn_or, ↓dn_not, ↓dn_cite, ↓dn_ec, ↓dn_ei, ↓dn_skip, ↓dn_seq, ↓dn_set, ↓dn_inc, ↓dn_putf, ↓dn_putz, ↓dn_ast, ↓dn_exp, ↓dn_if, ↓dn_ret, ↓dn_retz, ↓dn_retv, ↓dn_brk, ↓dn_cont, ↓dn_cs, ↓dn_sw, ↓dn_pop32, ↓dn_pop64, ↓dn_aop, ↓dn_call, ↓dn_max, ↓dn_min, ↓dn_acp, ↓dn_i2l, ↓dn_args0, ↓dn_args1, og_pad, og_ent, og_rlt, og_rle, og_rgt, og_rge, og_req, og_rne, og_padd, og_psub, og_pmul, List.getD_cons_zero, List.getD_cons_succ, List.set_cons_zero, List.set_cons_succ, List.length_cons, List.length_nil, List.cons_append, List.nil_append, List.replicate, List.append_nil, Nat.reduceAdd, Nat.reduceSub, Nat.reduceEqDiff, if_true, if_false, reduceIte, Int.reduceAdd, Int.reduceSub, Int.reduceMul, Int.reduceNeg, Int.reduceLT, Int.reduceLE, Int.cast_ofNat_Int, true_or, or_true, true_and, and_true, false_and, List.mem_cons, List.not_mem_nil, or_false, false_or, ne_eq]
    exact hK0 z h1 a1 b1
end
end
