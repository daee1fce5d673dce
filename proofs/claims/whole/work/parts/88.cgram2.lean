section
-- the class's grammar, second part
theorem mgr_0 (d : Nat) : m_gr (d + 1) 0 = og_den [8, 0] 3 2 (og_seq (og_exp (og_call (m_gr d 1) [og_loc 0, og_loc 1])) (og_seq (og_set 2 (og_k 0)) (og_while (og_and (og_cc og_rlt (og_loc 2) (og_k 1600)) (og_cb (og_call m_Tokens_isWord [og_fix (fun _ => 3) (og_loc 0), og_k 19]))) (og_seq (og_exp (og_call m_Tokens_step [og_fix (fun _ => 3) (og_loc 0)])) (og_seq (og_exp (og_call (m_gr d 1) [og_loc 0, og_loc 1])) (og_exp (og_call m_Script_addDeed [og_get 1 (og_loc 0), og_k 19])))) (og_inc 2 1)))) := rfl
theorem mgr_1 (d : Nat) : m_gr (d + 1) 1 = og_den [8, 0] 3 2 (og_seq (og_exp (og_call (m_gr d 2) [og_loc 0, og_loc 1])) (og_seq (og_set 2 (og_k 0)) (og_while (og_and (og_cc og_rlt (og_loc 2) (og_k 1600)) (og_cb (og_call m_Tokens_isWord [og_fix (fun _ => 3) (og_loc 0), og_k 20]))) (og_seq (og_exp (og_call m_Tokens_step [og_fix (fun _ => 3) (og_loc 0)])) (og_seq (og_exp (og_call (m_gr d 2) [og_loc 0, og_loc 1])) (og_exp (og_call m_Script_addDeed [og_get 1 (og_loc 0), og_k 20])))) (og_inc 2 1)))) := rfl
theorem mgr_2 (d : Nat) : m_gr (d + 1) 2 = og_den [8, 0] 2 2 (og_if (og_cb (og_call m_Tokens_isWord [og_fix (fun _ => 3) (og_loc 0), og_k 21])) (og_if (og_cb (og_call m_Grammar_opens [og_loc 0, og_loc 1])) (og_seq (og_exp (og_call (m_gr d 2) [og_loc 0, og_add (og_loc 1) (og_k 1)])) (og_exp (og_call m_Script_addDeed [og_get 1 (og_loc 0), og_k 21]))) (og_skip)) (og_if (og_cb (og_call m_Tokens_isSign [og_fix (fun _ => 3) (og_loc 0), og_k 91])) (og_if (og_cb (og_call m_Grammar_opens [og_loc 0, og_loc 1])) (og_seq (og_exp (og_call (m_gr d 0) [og_loc 0, og_add (og_loc 1) (og_k 1)])) (og_exp (og_call m_Tokens_takeSign [og_fix (fun _ => 3) (og_loc 0), og_k 93]))) (og_skip)) (og_if (og_cb (og_call m_Tokens_isWord [og_fix (fun _ => 3) (og_loc 0), og_k 22])) (og_seq (og_exp (og_call m_Tokens_step [og_fix (fun _ => 3) (og_loc 0)])) (og_exp (og_call m_Script_addNumber [og_get 1 (og_loc 0), og_k 1]))) (og_exp (og_call (m_gr d 3) [og_loc 0, og_loc 1]))))) := rfl
theorem mgr_3 (d : Nat) : m_gr (d + 1) 3 = og_den [8, 0] 3 2 (og_seq (og_exp (og_call (m_gr d 4) [og_loc 0, og_loc 1])) (og_if (og_or (og_or (og_cb (og_call m_Tokens_isSign [og_fix (fun _ => 3) (og_loc 0), og_k 60])) (og_cb (og_call m_Tokens_isSign [og_fix (fun _ => 3) (og_loc 0), og_k 62]))) (og_cb (og_call m_Tokens_isSign [og_fix (fun _ => 3) (og_loc 0), og_k 61]))) (og_seq (og_set 2 (og_get 5 (og_fix (fun _ => 3) (og_loc 0)))) (og_seq (og_exp (og_call m_Tokens_step [og_fix (fun _ => 3) (og_loc 0)])) (og_seq (og_exp (og_call (m_gr d 4) [og_loc 0, og_loc 1])) (og_exp (og_call m_Script_addDeed [og_get 1 (og_loc 0), og_loc 2]))))) (og_exp (og_call m_Tokens_fail [og_fix (fun _ => 3) (og_loc 0), og_k 1])))) := rfl
theorem mgr_4 (d : Nat) : m_gr (d + 1) 4 = og_den [8, 0] 4 2 (og_seq (og_exp (og_call (m_gr d 5) [og_loc 0, og_loc 1])) (og_seq (og_set 2 (og_k 0)) (og_while (og_and (og_cc og_rlt (og_loc 2) (og_k 1600)) (og_or (og_cb (og_call m_Tokens_isSign [og_fix (fun _ => 3) (og_loc 0), og_k 43])) (og_cb (og_call m_Tokens_isSign [og_fix (fun _ => 3) (og_loc 0), og_k 45])))) (og_seq (og_set 3 (og_get 5 (og_fix (fun _ => 3) (og_loc 0)))) (og_seq (og_exp (og_call m_Tokens_step [og_fix (fun _ => 3) (og_loc 0)])) (og_seq (og_exp (og_call (m_gr d 5) [og_loc 0, og_loc 1])) (og_exp (og_call m_Script_addDeed [og_get 1 (og_loc 0), og_loc 3]))))) (og_inc 2 1)))) := rfl
theorem mgr_5 (d : Nat) : m_gr (d + 1) 5 = og_den [8, 0] 4 2 (og_seq (og_exp (og_call (m_gr d 6) [og_loc 0, og_loc 1])) (og_seq (og_set 2 (og_k 0)) (og_while (og_and (og_cc og_rlt (og_loc 2) (og_k 1600)) (og_or (og_cb (og_call m_Tokens_isSign [og_fix (fun _ => 3) (og_loc 0), og_k 42])) (og_cb (og_call m_Tokens_isSign [og_fix (fun _ => 3) (og_loc 0), og_k 47])))) (og_seq (og_set 3 (og_get 5 (og_fix (fun _ => 3) (og_loc 0)))) (og_seq (og_exp (og_call m_Tokens_step [og_fix (fun _ => 3) (og_loc 0)])) (og_seq (og_exp (og_call (m_gr d 6) [og_loc 0, og_loc 1])) (og_exp (og_call m_Script_addDeed [og_get 1 (og_loc 0), og_loc 3]))))) (og_inc 2 1)))) := rfl
theorem mgr_6 (d : Nat) : m_gr (d + 1) 6 = og_den [8, 0] 3 2 (og_seq (og_set 2 (og_call m_Tokens_word [og_fix (fun _ => 3) (og_loc 0)])) (og_if (og_cb (og_call m_Tokens_isNumber [og_fix (fun _ => 3) (og_loc 0)])) (og_exp (og_call m_Script_addNumber [og_get 1 (og_loc 0), og_call m_Tokens_takeNumber [og_fix (fun _ => 3) (og_loc 0), og_k 0, og_k 9999]])) (og_if (og_cb (og_call m_Tokens_isSign [og_fix (fun _ => 3) (og_loc 0), og_k 40])) (og_if (og_cb (og_call m_Grammar_opens [og_loc 0, og_loc 1])) (og_seq (og_exp (og_call (m_gr d 4) [og_loc 0, og_add (og_loc 1) (og_k 1)])) (og_exp (og_call m_Tokens_takeSign [og_fix (fun _ => 3) (og_loc 0), og_k 41]))) (og_skip)) (og_if (og_or (og_cc og_req (og_loc 2) (og_k 23)) (og_cc og_req (og_loc 2) (og_k 24))) (og_seq (og_exp (og_call m_Tokens_step [og_fix (fun _ => 3) (og_loc 0)])) (og_exp (og_call (m_gr d 7) [og_loc 0, og_loc 1, og_loc 2]))) (og_if (og_and (og_or (og_cc og_req (og_loc 2) (og_k 18)) (og_cc og_req (og_loc 2) (og_k 3))) (og_cc og_req (og_get 2 (og_loc 0)) (og_k 13))) (og_if (og_cb (og_call m_Grammar_opens [og_loc 0, og_loc 1])) (og_seq (og_exp (og_call (m_gr d 6) [og_loc 0, og_add (og_loc 1) (og_k 1)])) (og_exp (og_call m_Script_addDeed [og_get 1 (og_loc 0), og_loc 2]))) (og_skip)) (og_if (og_cb (og_call m_Grammar_isKnown [og_loc 0, og_loc 2])) (og_seq (og_exp (og_call m_Tokens_step [og_fix (fun _ => 3) (og_loc 0)])) (og_exp (og_call m_Script_addDeed [og_get 1 (og_loc 0), og_loc 2]))) (og_exp (og_call m_Tokens_fail [og_fix (fun _ => 3) (og_loc 0), og_k 1])))))))) := rfl
theorem mgr_7 (d : Nat) : m_gr (d + 1) 7 = og_den [8, 0, 0] 3 2 (og_if (og_not (og_cb (og_call m_Tokens_isSign [og_fix (fun _ => 3) (og_loc 0), og_k 40]))) (og_exp (og_call m_Tokens_fail [og_fix (fun _ => 3) (og_loc 0), og_k 1])) (og_if (og_cb (og_call m_Grammar_opens [og_loc 0, og_loc 1])) (og_seq (og_exp (og_call (m_gr d 4) [og_loc 0, og_add (og_loc 1) (og_k 1)])) (og_seq (og_exp (og_call m_Tokens_takeSign [og_fix (fun _ => 3) (og_loc 0), og_k 44])) (og_seq (og_exp (og_call (m_gr d 4) [og_loc 0, og_add (og_loc 1) (og_k 1)])) (og_seq (og_exp (og_call m_Tokens_takeSign [og_fix (fun _ => 3) (og_loc 0), og_k 41])) (og_exp (og_call m_Script_addDeed [og_get 1 (og_loc 0), og_loc 2])))))) (og_skip))) := rfl
section
variable {h h0 h' : Hp} {B : Int → Int} {n s pu a o : Int} {c : List Int} {r : PS} {K : Int → Hp → Prop}
theorem gLp_s {x y : Int} {f : PT} {k : Nat} : gLp B n x y f (k + 1) a c = if sgn B n a = x ∨ sgn B n a = y then bnd (bnd (f (tE B n a) c) (gAdd (-1 - sgn B n a))) (gLp B n x y f k) else .inl (a, c) := rfl
theorem gLw_s {w : Int} {f : PT} {k : Nat} : gLw B n w f (k + 1) a c = if wrd B n a = w then bnd (bnd (f (tE B n a) c) (gAdd (-1 - w))) (gLw B n w f k) else .inl (a, c) := rfl
theorem len_add {f : PT} {v : Int} (hf : Adv n f) (ha : 0 ≤ a) (hlt : a < tE B n a) (hn : a ≤ n) (hlen : (c.length : Int) ≤ a) : lenOK n (bnd (f (tE B n a) c) (gAdd v)) ∧ ∀ a1 c1, bnd (f (tE B n a) c) (gAdd v) = .inl (a1, c1) → a + 1 ≤ a1 := by
  have te := tE_le (B := B) hn
  have hs := hf (tE B n a) c (by omega) te
  revert hs
  generalize f (tE B n a) c = r
  intro hs
  cases r with
  | inr z => exact ⟨trivial, fun a1 c1 e => by cases e⟩
  | inl q =>
    refine ⟨⟨by show 0 ≤ q.1; have := hs.1; omega, hs.2.1, ?_⟩, fun a1 c1 e => ?_⟩
    · show (((q.2 ++ [v]).length : Nat) : Int) ≤ q.1
      rw [List.length_append]; simp
      have := hs.2.2; omega
    · cases e
      have := hs.1; omega
theorem end_sgn (hn : n ≤ a) : sgn B n a = -1 ∧ wrd B n a = -1 := by
  have t := tS_sp B n a
  have k : tK B n a = 0 := by unfold tK; rw [if_neg (by omega)]
  unfold sgn wrd
  rw [k]
  exact ⟨if_neg (by decide), if_neg (by decide)⟩
theorem g_loop {x y : Int} {m : og_Dn} {f : PT} (hx : 0 ≤ x ∧ 0 ≤ y) (hm : OKg B n s pu m [5, o] f) (hf : Adv n f) (hc : ctG h B n s pu) (hs : st0 h s B n r) (hl : lenOK n r) {KK : List Int → Hp → Prop} {R : Int → Hp → Prop} {Bk Ck : List Int → Hp → Prop} (hK : ∀ e h', st0 h' s B n (bnd r (gLp B n x y f 1601)) → frG s h h' → KK e h') :
    og_while (og_and (og_cc og_rlt (og_loc 2) (og_k 1600)) (og_or (og_cb (og_call m_Tokens_isSign [og_fix (fun _ => 3) (og_loc 0), og_k x])) (og_cb (og_call m_Tokens_isSign [og_fix (fun _ => 3) (og_loc 0), og_k y])))) (og_seq (og_set 3 (og_get 5 (og_fix (fun _ => 3) (og_loc 0)))) (og_seq (og_exp (og_call m_Tokens_step [og_fix (fun _ => 3) (og_loc 0)])) (og_seq (og_exp (og_call m [og_loc 0, og_loc 1])) (og_exp (og_call m_Script_addDeed [og_get 1 (og_loc 0), og_loc 3]))))) (og_inc 2 1) [5, o, 0, 0] h KK R Bk Ck := by
  have hn := hc.1.2.2
  refine og_loop 1600 (fun i e1 h1 => ∃ r1 c3, e1 = [5, o, (i : Int), c3] ∧ st0 h1 s B n r1 ∧ lenOK n r1 ∧ frG s h h1 ∧ bnd r1 (gLp B n x y f (1601 - i)) = bnd r (gLp B n x y f 1601) ∧ (∀ a c, r1 = .inl (a, c) → (i : Int) ≤ a)) ⟨r, 0, rfl, hs, hl, frG_rf, rfl, fun a c e => by rw [e] at hl; exact hl.1⟩ ?_
  rintro i e1 h1 hi ⟨r1, c3, rfl, hs1, hl1, hf1, he, hia⟩
  simp -implicitDefEqProofs only [↓dn_den, ↓dn_loc, ↓dn_k, ↓dn_add, ↓dn_sub, ↓dn_mul, ↓dn_div, ↓dn_rem, ↓dn_bop, ↓dn_ladd, ↓dn_lsub, ↓dn_lmul, ↓dn_ldiv, ↓dn_lrem, ↓dn_land, ↓dn_l2i, ↓dn_neg, ↓dn_get, ↓dn_fix, ↓dn_ald, ↓dn_gld, ↓dn_yld, ↓dn_len, ↓dn_gln, ↓dn_cc, ↓dn_cb, ↓dn_and, ↓dn_or, ↓dn_not, ↓dn_cite, ↓dn_ec, ↓dn_ei, ↓dn_skip, ↓dn_seq, ↓dn_set, ↓dn_inc, ↓dn_putf, ↓dn_putz, ↓dn_ast, ↓dn_exp, ↓dn_if, ↓dn_ret, ↓dn_retz, ↓dn_retv, ↓dn_brk, ↓dn_cont, ↓dn_cs, ↓dn_sw, ↓dn_pop32, ↓dn_pop64, ↓dn_aop, ↓dn_call, ↓dn_max, ↓dn_min, ↓dn_acp, ↓dn_i2l, ↓dn_args0, ↓dn_args1, og_pad, og_ent, og_rlt, og_rle, og_rgt, og_rge, og_req, og_rne, og_padd, og_psub, og_pmul, List.getD_cons_zero, List.getD_cons_succ, List.set_cons_zero, List.set_cons_succ, List.length_cons, List.length_nil, List.cons_append, List.nil_append, List.replicate, List.append_nil, Nat.reduceAdd, Nat.reduceSub, Nat.reduceEqDiff, if_true, if_false, reduceIte, Int.reduceAdd, Int.reduceSub, Int.reduceMul, Int.reduceNeg, Int.reduceLT, Int.reduceLE, Int.cast_ofNat_Int, true_or, or_true, true_and, and_true, false_and, List.mem_cons, List.not_mem_nil, or_false, false_or, ne_eq, og_i32]
  have hc1 := ctG_fr hc hf1
  cases r1 with
  | inr z =>
    have fin : ∀ e, KK e h1 := fun e => hK e h1 (by rw [← he]; exact hs1) hf1
    refine ⟨fun _ => g_isSignF hs1 ⟨fun q => absurd (by trivial) q, fun _ => g_isSignF hs1 ⟨fun q => absurd (by trivial) q, fun _ => fin _⟩⟩, fun _ => fin _⟩
  | inl q =>
    obtain ⟨a, c⟩ := q
    have hia := hia a c rfl
    have l1 : 0 ≤ a ∧ a ≤ n ∧ (c.length : Int) ≤ a := hl1
    have ek : 1601 - i = (1600 - i) + 1 := by omega
    rw [ek, bnd_l, gLp_s] at he
    have fin : ¬ (sgn B n a = x ∨ sgn B n a = y) → ∀ e, KK e h1 := fun z e => hK e h1 (by rw [← he, if_neg z]; exact hs1) hf1
    refine ⟨fun hlt => ?_, fun hge => fin (by have := end_sgn (B := B) (n := n) (a := a) (by omega); omega) _⟩
    refine (fun (bd : (sgn B n a = x ∨ sgn B n a = y) → _) => g_isSign hx.1 hs1 ⟨fun q => bd (Or.inl (iteP1 q)), fun q => g_isSign hx.2 hs1 ⟨fun q2 => bd (Or.inr (iteP1 q2)), fun q2 => fin (fun z => z.elim (iteP0 q) (iteP0 q2)) _⟩⟩) ?_
    intro hsg
    rw [if_pos hsg] at he
    have sg := sgn_go (B := B) (n := n) (a := a) (by omega)
    have ev : h1 3 5 = sgn B n a := by
      have t := (hs1.1.2.2.2.2.2 sg.2.2)
      unfold sgn
      rw [if_pos sg.2.2]
      exact t
    have brg := hc.1.2.2.2.2 (tS B n a) (by have := tS_sp B n a; omega) sg.2.1
    have es : sgn B n a = B (tS B n a) := by unfold sgn; rw [if_pos sg.2.2]
    rw [ev]
    refine g_step hc1 hs1 (fun h2 hs2 f2 => ?_)
    have hc2 := ctG_fr hc1 f2
    have te := tE_le (B := B) l1.2.1
    refine hm h2 _ (.inl (tE B n a, c)) hc2 hs2 ⟨by show 0 ≤ tE B n a; omega, te, by show (c.length : Int) ≤ tE B n a; omega⟩ (fun h3 hs3 f3 => ?_)
    have hc3 := ctG_fr hc2 f3
    rw [hc3.2.1.1]
    have la := len_add (B := B) (v := -1 - sgn B n a) hf l1.1 sg.1 l1.2.1 l1.2.2
    refine g_add (by omega) hc.2.2 hn.2.1 hs3 (len_bnd hf (r := .inl (tE B n a, c)) ⟨by show 0 ≤ tE B n a; omega, te, by show (c.length : Int) ≤ tE B n a; omega⟩) (fun h4 hs4 f4 => ?_)
    refine ⟨by omega, og_nx_mk (by omega) ⟨_, sgn B n a, by simp, hs4, la.1, frG_tr hf1 (frG_tr f2 (frG_tr f3 f4)), ?_, fun a1 c1 e => ?_⟩⟩
    · have ek2 : 1601 - (i + 1) = 1600 - i := by omega
      rw [ek2, ← he]
      rfl
    · have := la.2 a1 c1 e
      omega
theorem g_loopW {w : Int} {m : og_Dn} {f : PT} (hw : 0 ≤ w ∧ w ≤ 100) (hm : OKg B n s pu m [5, o] f) (hf : Adv n f) (hc : ctG h B n s pu) (hs : st0 h s B n r) (hl : lenOK n r) {KK : List Int → Hp → Prop} {R : Int → Hp → Prop} {Bk Ck : List Int → Hp → Prop} (hK : ∀ e h', st0 h' s B n (bnd r (gLw B n w f 1601)) → frG s h h' → KK e h') :
    og_while (og_and (og_cc og_rlt (og_loc 2) (og_k 1600)) (og_cb (og_call m_Tokens_isWord [og_fix (fun _ => 3) (og_loc 0), og_k w]))) (og_seq (og_exp (og_call m_Tokens_step [og_fix (fun _ => 3) (og_loc 0)])) (og_seq (og_exp (og_call m [og_loc 0, og_loc 1])) (og_exp (og_call m_Script_addDeed [og_get 1 (og_loc 0), og_k w])))) (og_inc 2 1) [5, o, 0] h KK R Bk Ck := by
  have hn := hc.1.2.2
  refine og_loop 1600 (fun i e1 h1 => ∃ r1, e1 = [5, o, (i : Int)] ∧ st0 h1 s B n r1 ∧ lenOK n r1 ∧ frG s h h1 ∧ bnd r1 (gLw B n w f (1601 - i)) = bnd r (gLw B n w f 1601) ∧ (∀ a c, r1 = .inl (a, c) → (i : Int) ≤ a)) ⟨r, rfl, hs, hl, frG_rf, rfl, fun a c e => by rw [e] at hl; exact hl.1⟩ ?_
  rintro i e1 h1 hi ⟨r1, rfl, hs1, hl1, hf1, he, hia⟩
  simp -implicitDefEqProofs only [↓dn_den, ↓dn_loc, ↓dn_k, ↓dn_add, ↓dn_sub, ↓dn_mul, ↓dn_div, ↓dn_rem, ↓dn_bop, ↓dn_ladd, ↓dn_lsub, ↓dn_lmul, ↓dn_ldiv, ↓dn_lrem, ↓dn_land, ↓dn_l2i, ↓dn_neg, ↓dn_get, ↓dn_fix, ↓dn_ald, ↓dn_gld, ↓dn_yld, ↓dn_len, ↓dn_gln, ↓dn_cc, ↓dn_cb, ↓dn_and, ↓dn_or, ↓dn_not, ↓dn_cite, ↓dn_ec, ↓dn_ei, ↓dn_skip, ↓dn_seq, ↓dn_set, ↓dn_inc, ↓dn_putf, ↓dn_putz, ↓dn_ast, ↓dn_exp, ↓dn_if, ↓dn_ret, ↓dn_retz, ↓dn_retv, ↓dn_brk, ↓dn_cont, ↓dn_cs, ↓dn_sw, ↓dn_pop32, ↓dn_pop64, ↓dn_aop, ↓dn_call, ↓dn_max, ↓dn_min, ↓dn_acp, ↓dn_i2l, ↓dn_args0, ↓dn_args1, og_pad, og_ent, og_rlt, og_rle, og_rgt, og_rge, og_req, og_rne, og_padd, og_psub, og_pmul, List.getD_cons_zero, List.getD_cons_succ, List.set_cons_zero, List.set_cons_succ, List.length_cons, List.length_nil, List.cons_append, List.nil_append, List.replicate, List.append_nil, Nat.reduceAdd, Nat.reduceSub, Nat.reduceEqDiff, if_true, if_false, reduceIte, Int.reduceAdd, Int.reduceSub, Int.reduceMul, Int.reduceNeg, Int.reduceLT, Int.reduceLE, Int.cast_ofNat_Int, true_or, or_true, true_and, and_true, false_and, List.mem_cons, List.not_mem_nil, or_false, false_or, ne_eq, og_i32]
  have hc1 := ctG_fr hc hf1
  cases r1 with
  | inr z =>
    have fin : ∀ e, KK e h1 := fun e => hK e h1 (by rw [← he]; exact hs1) hf1
    refine ⟨fun _ => g_isWordF hs1 ⟨fun q => absurd (by trivial) q, fun _ => fin _⟩, fun _ => fin _⟩
  | inl q =>
    obtain ⟨a, c⟩ := q
    have hia := hia a c rfl
    have l1 : 0 ≤ a ∧ a ≤ n ∧ (c.length : Int) ≤ a := hl1
    have ek : 1601 - i = (1600 - i) + 1 := by omega
    rw [ek, bnd_l, gLw_s] at he
    have fin : ¬ (wrd B n a = w) → ∀ e, KK e h1 := fun z e => hK e h1 (by rw [← he, if_neg z]; exact hs1) hf1
    refine ⟨fun hlt => ?_, fun hge => fin (by have := end_sgn (B := B) (n := n) (a := a) (by omega); omega) _⟩
    refine g_isWord hw.1 hs1 ⟨fun q => ?_, fun q => fin (iteP0 q) _⟩
    have hsg := iteP1 q
    rw [if_pos hsg] at he
    have sg := wrd_go (B := B) (n := n) (a := a) (by omega)
    refine g_step hc1 hs1 (fun h2 hs2 f2 => ?_)
    have hc2 := ctG_fr hc1 f2
    have te := tE_le (B := B) l1.2.1
    refine hm h2 _ (.inl (tE B n a, c)) hc2 hs2 ⟨by show 0 ≤ tE B n a; omega, te, by show (c.length : Int) ≤ tE B n a; omega⟩ (fun h3 hs3 f3 => ?_)
    have hc3 := ctG_fr hc2 f3
    rw [hc3.2.1.1]
    have la := len_add (B := B) (v := -1 - w) hf l1.1 sg.1 l1.2.1 l1.2.2
    refine g_add (by omega) hc.2.2 hn.2.1 hs3 (len_bnd hf (r := .inl (tE B n a, c)) ⟨by show 0 ≤ tE B n a; omega, te, by show (c.length : Int) ≤ tE B n a; omega⟩) (fun h4 hs4 f4 => ?_)
    refine ⟨by omega, og_nx_mk (by omega) ⟨_, by simp, hs4, la.1, frG_tr hf1 (frG_tr f2 (frG_tr f3 f4)), ?_, fun a1 c1 e => ?_⟩⟩
    · have ek2 : 1601 - (i + 1) = 1600 - i := by omega
      rw [ek2, ← he]
      rfl
    · have := la.2 a1 c1 e
      omega
theorem g_prod {k : Nat} {f : PT} (hm : OKg B n s pu (m_gr k 6) [5, o] f) (hf : Adv n f) : OKg B n s pu (m_gr (k + 1) 5) [5, o] (gProd B n f) := by
  intro h K r hc hs hl hK
  rw [mgr_5]
  simp -implicitDefEqProofs only [↓dn_den, ↓dn_loc, ↓dn_k, ↓dn_add, ↓dn_sub, ↓dn_mul, ↓dn_div, ↓dn_rem, ↓dn_bop, ↓dn_ladd, ↓dn_lsub, ↓dn_lmul, ↓dn_ldiv, ↓dn_lrem, ↓dn_land, ↓dn_l2i, ↓dn_neg, ↓dn_get, ↓dn_fix, ↓dn_ald, ↓dn_gld, ↓dn_yld, ↓dn_len, ↓dn_gln, ↓dn_cc, ↓dn_cb, ↓dn_and, ↓dn_or, ↓dn_not, ↓dn_cite, ↓dn_ec, ↓dn_ei, ↓dn_skip, ↓dn_seq, ↓dn_set, ↓dn_inc, ↓dn_putf, ↓dn_putz, ↓dn_ast, ↓dn_exp, ↓dn_if, ↓dn_ret, ↓dn_retz, ↓dn_retv, ↓dn_brk, ↓dn_cont, ↓dn_cs, ↓dn_sw, ↓dn_pop32, ↓dn_pop64, ↓dn_aop, ↓dn_call, ↓dn_max, ↓dn_min, ↓dn_acp, ↓dn_i2l, ↓dn_args0, ↓dn_args1, og_pad, og_ent, og_rlt, og_rle, og_rgt, og_rge, og_req, og_rne, og_padd, og_psub, og_pmul, List.getD_cons_zero, List.getD_cons_succ, List.set_cons_zero, List.set_cons_succ, List.length_cons, List.length_nil, List.cons_append, List.nil_append, List.replicate, List.append_nil, Nat.reduceAdd, Nat.reduceSub, Nat.reduceEqDiff, if_true, if_false, reduceIte, Int.reduceAdd, Int.reduceSub, Int.reduceMul, Int.reduceNeg, Int.reduceLT, Int.reduceLE, Int.cast_ofNat_Int, true_or, or_true, true_and, and_true, false_and, List.mem_cons, List.not_mem_nil, or_false, false_or, ne_eq]
  refine hm h _ r hc hs hl (fun h1 hs1 f1 => ?_)
  refine g_loop (by decide) hm hf (ctG_fr hc f1) hs1 (len_bnd hf hl) (fun e h2 hs2 f2 => ?_)
  refine hK h2 ?_ (frG_tr f1 f2)
  rw [bnd_bnd] at hs2
  exact hs2
theorem g_sum {k : Nat} {f : PT} (hm : OKg B n s pu (m_gr k 6) [5, o] f) (hf : Adv n f) : OKg B n s pu (m_gr (k + 2) 4) [5, o] (gSum B n f) := by
  have hp := g_prod hm hf
  have hfp := adv_gProd (B := B) hf
  intro h K r hc hs hl hK
  rw [mgr_4]
  simp -implicitDefEqProofs only [↓dn_den, ↓dn_loc, ↓dn_k, ↓dn_add, ↓dn_sub, ↓dn_mul, ↓dn_div, ↓dn_rem, ↓dn_bop, ↓dn_ladd, ↓dn_lsub, ↓dn_lmul, ↓dn_ldiv, ↓dn_lrem, ↓dn_land, ↓dn_l2i, ↓dn_neg, ↓dn_get, ↓dn_fix, ↓dn_ald, ↓dn_gld, ↓dn_yld, ↓dn_len, ↓dn_gln, ↓dn_cc, ↓dn_cb, ↓dn_and, ↓dn_or, ↓dn_not, ↓dn_cite, ↓dn_ec, ↓dn_ei, ↓dn_skip, ↓dn_seq, ↓dn_set, ↓dn_inc, ↓dn_putf, ↓dn_putz, ↓dn_ast, ↓dn_exp, ↓dn_if, ↓dn_ret, ↓dn_retz, ↓dn_retv, ↓dn_brk, ↓dn_cont, ↓dn_cs, ↓dn_sw, ↓dn_pop32, ↓dn_pop64, ↓dn_aop, ↓dn_call, ↓dn_max, ↓dn_min, ↓dn_acp, ↓dn_i2l, ↓dn_args0, ↓dn_args1, og_pad, og_ent, og_rlt, og_rle, og_rgt, og_rge, og_req, og_rne, og_padd, og_psub, og_pmul, List.getD_cons_zero, List.getD_cons_succ, List.set_cons_zero, List.set_cons_succ, List.length_cons, List.length_nil, List.cons_append, List.nil_append, List.replicate, List.append_nil, Nat.reduceAdd, Nat.reduceSub, Nat.reduceEqDiff, if_true, if_false, reduceIte, Int.reduceAdd, Int.reduceSub, Int.reduceMul, Int.reduceNeg, Int.reduceLT, Int.reduceLE, Int.cast_ofNat_Int, true_or, or_true, true_and, and_true, false_and, List.mem_cons, List.not_mem_nil, or_false, false_or, ne_eq]
  refine hp h _ r hc hs hl (fun h1 hs1 f1 => ?_)
  refine g_loop (by decide) hp hfp (ctG_fr hc f1) hs1 (len_bnd hfp hl) (fun e h2 hs2 f2 => ?_)
  refine hK h2 ?_ (frG_tr f1 f2)
  rw [bnd_bnd] at hs2
  exact hs2
theorem g_both {k : Nat} {f : PT} (hm : OKg B n s pu (m_gr k 2) [5, o] f) (hf : Adv n f) : OKg B n s pu (m_gr (k + 1) 1) [5, o] (gBoth B n f) := by
  intro h K r hc hs hl hK
  rw [mgr_1]
  simp -implicitDefEqProofs only [↓dn_den, ↓dn_loc, ↓dn_k, ↓dn_add, ↓dn_sub, ↓dn_mul, ↓dn_div, ↓dn_rem, ↓dn_bop, ↓dn_ladd, ↓dn_lsub, ↓dn_lmul, ↓dn_ldiv, ↓dn_lrem, ↓dn_land, ↓dn_l2i, ↓dn_neg, ↓dn_get, ↓dn_fix, ↓dn_ald, ↓dn_gld, ↓dn_yld, ↓dn_len, ↓dn_gln, ↓dn_cc, ↓dn_cb, ↓dn_and, ↓dn_or, ↓dn_not, ↓dn_cite, ↓dn_ec, ↓dn_ei, ↓dn_skip, ↓dn_seq, ↓dn_set, ↓dn_inc, ↓dn_putf, ↓dn_putz, ↓dn_ast, ↓dn_exp, ↓dn_if, ↓dn_ret, ↓dn_retz, ↓dn_retv, ↓dn_brk, ↓dn_cont, ↓dn_cs, ↓dn_sw, ↓dn_pop32, ↓dn_pop64, ↓dn_aop, ↓dn_call, ↓dn_max, ↓dn_min, ↓dn_acp, ↓dn_i2l, ↓dn_args0, ↓dn_args1, og_pad, og_ent, og_rlt, og_rle, og_rgt, og_rge, og_req, og_rne, og_padd, og_psub, og_pmul, List.getD_cons_zero, List.getD_cons_succ, List.set_cons_zero, List.set_cons_succ, List.length_cons, List.length_nil, List.cons_append, List.nil_append, List.replicate, List.append_nil, Nat.reduceAdd, Nat.reduceSub, Nat.reduceEqDiff, if_true, if_false, reduceIte, Int.reduceAdd, Int.reduceSub, Int.reduceMul, Int.reduceNeg, Int.reduceLT, Int.reduceLE, Int.cast_ofNat_Int, true_or, or_true, true_and, and_true, false_and, List.mem_cons, List.not_mem_nil, or_false, false_or, ne_eq]
  refine hm h _ r hc hs hl (fun h1 hs1 f1 => ?_)
  refine g_loopW (by decide) hm hf (ctG_fr hc f1) hs1 (len_bnd hf hl) (fun e h2 hs2 f2 => ?_)
  refine hK h2 ?_ (frG_tr f1 f2)
  rw [bnd_bnd] at hs2
  exact hs2
theorem g_test {k : Nat} {f : PT} (hm : OKg B n s pu (m_gr k 2) [5, o] f) (hf : Adv n f) : OKg B n s pu (m_gr (k + 2) 0) [5, o] (gTest B n f) := by
  have hp := g_both hm hf
  have hfp := adv_gBoth (B := B) hf
  intro h K r hc hs hl hK
  rw [mgr_0]
  simp -implicitDefEqProofs only [↓dn_den, ↓dn_loc, ↓dn_k, ↓dn_add, ↓dn_sub, ↓dn_mul, ↓dn_div, ↓dn_rem, ↓dn_bop, ↓dn_ladd, ↓dn_lsub, ↓dn_lmul, ↓dn_ldiv, ↓dn_lrem, ↓dn_land, ↓dn_l2i, ↓dn_neg, ↓dn_get, ↓dn_fix, ↓dn_ald, ↓dn_gld, ↓dn_yld, ↓dn_len, ↓dn_gln, ↓dn_cc, ↓dn_cb, ↓dn_and, ↓dn_or, ↓dn_not, ↓dn_cite, ↓dn_ec, ↓dn_ei, ↓dn_skip, ↓dn_seq, ↓dn_set, ↓dn_inc, ↓dn_putf, ↓dn_putz, ↓dn_ast, ↓dn_exp, ↓dn_if, ↓dn_ret, ↓dn_retz, ↓dn_retv, ↓dn_brk, ↓dn_cont, ↓dn_cs, ↓dn_sw, ↓dn_pop32, ↓dn_pop64, ↓dn_aop, ↓dn_call, ↓dn_max, ↓dn_min, ↓dn_acp, ↓dn_i2l, ↓dn_args0, ↓dn_args1, og_pad, og_ent, og_rlt, og_rle, og_rgt, og_rge, og_req, og_rne, og_padd, og_psub, og_pmul, List.getD_cons_zero, List.getD_cons_succ, List.set_cons_zero, List.set_cons_succ, List.length_cons, List.length_nil, List.cons_append, List.nil_append, List.replicate, List.append_nil, Nat.reduceAdd, Nat.reduceSub, Nat.reduceEqDiff, if_true, if_false, reduceIte, Int.reduceAdd, Int.reduceSub, Int.reduceMul, Int.reduceNeg, Int.reduceLT, Int.reduceLE, Int.cast_ofNat_Int, true_or, or_true, true_and, and_true, false_and, List.mem_cons, List.not_mem_nil, or_false, false_or, ne_eq]
  refine hp h _ r hc hs hl (fun h1 hs1 f1 => ?_)
  refine g_loopW (by decide) hp hfp (ctG_fr hc f1) hs1 (len_bnd hfp hl) (fun e h2 hs2 f2 => ?_)
  refine hK h2 ?_ (frG_tr f1 f2)
  rw [bnd_bnd] at hs2
  exact hs2
theorem g_cmp {k : Nat} {S : PT} (hm : OKg B n s pu (m_gr k 4) [5, o] S) (hS : Adv n S) : OKg B n s pu (m_gr (k + 1) 3) [5, o] (gCmp B n S) := by
  intro h K r hc hs hl hK
  have hn := hc.1.2.2
  rw [mgr_3]
  simp -implicitDefEqProofs only [↓dn_den, ↓dn_loc, ↓dn_k, ↓dn_add, ↓dn_sub, ↓dn_mul, ↓dn_div, ↓dn_rem, ↓dn_bop, ↓dn_ladd, ↓dn_lsub, ↓dn_lmul, ↓dn_ldiv, ↓dn_lrem, ↓dn_land, ↓dn_l2i, ↓dn_neg, ↓dn_get, ↓dn_fix, ↓dn_ald, ↓dn_gld, ↓dn_yld, ↓dn_len, ↓dn_gln, ↓dn_cc, ↓dn_cb, ↓dn_and, ↓dn_or, ↓dn_not, ↓dn_cite, ↓dn_ec, ↓dn_ei, ↓dn_skip, ↓dn_seq, ↓dn_set, ↓dn_inc, ↓dn_putf, ↓dn_putz, ↓dn_ast, ↓dn_exp, ↓dn_if, ↓dn_ret, ↓dn_retz, ↓dn_retv, ↓dn_brk, ↓dn_cont, ↓dn_cs, ↓dn_sw, ↓dn_pop32, ↓dn_pop64, ↓dn_aop, ↓dn_call, ↓dn_max, ↓dn_min, ↓dn_acp, ↓dn_i2l, ↓dn_args0, ↓dn_args1, og_pad, og_ent, og_rlt, og_rle, og_rgt, og_rge, og_req, og_rne, og_padd, og_psub, og_pmul, List.getD_cons_zero, List.getD_cons_succ, List.set_cons_zero, List.set_cons_succ, List.length_cons, List.length_nil, List.cons_append, List.nil_append, List.replicate, List.append_nil, Nat.reduceAdd, Nat.reduceSub, Nat.reduceEqDiff, if_true, if_false, reduceIte, Int.reduceAdd, Int.reduceSub, Int.reduceMul, Int.reduceNeg, Int.reduceLT, Int.reduceLE, Int.cast_ofNat_Int, true_or, or_true, true_and, and_true, false_and, List.mem_cons, List.not_mem_nil, or_false, false_or, ne_eq]
  refine hm h _ r hc hs hl (fun h1 hs1 f1 => ?_)
  have hc1 := ctG_fr hc f1
  have hl1 := len_bnd hS hl
  have hK' : ∀ h', st0 h' s B n (bnd (bnd r S) (fun a1 c1 => if sgn B n a1 = 60 ∨ sgn B n a1 = 62 ∨ sgn B n a1 = 61 then bnd (S (tE B n a1) c1) (gAdd (-1 - sgn B n a1)) else .inr (1, tS B n a1))) → frG s h1 h' → K 0 h' := fun h' a b => hK h' (by rw [bnd_bnd] at a; exact a) (frG_tr f1 b)
  revert hs1 hl1 hK'
  generalize bnd r S = r1
  intro hs1 hl1 hK'
  cases r1 with
  | inr z =>
    have fin : K 0 h1 := hK' h1 hs1 frG_rf
    exact g_isSignF hs1 ⟨fun q => absurd (by trivial) q, fun _ => g_isSignF hs1 ⟨fun q => absurd (by trivial) q, fun _ => g_isSignF hs1 ⟨fun q => absurd (by trivial) q, fun _ => g_failF hs1 fin⟩⟩⟩
  | inl q =>
    obtain ⟨a, c⟩ := q
    rw [bnd_l] at hK'
    have l1 : 0 ≤ a ∧ a ≤ n ∧ (c.length : Int) ≤ a := hl1
    refine (fun (bd : (sgn B n a = 60 ∨ sgn B n a = 62 ∨ sgn B n a = 61) → _) => g_isSign (by decide) hs1 ⟨fun q => bd (Or.inl (iteP1 q)), fun q => g_isSign (by decide) hs1 ⟨fun q2 => bd (Or.inr (Or.inl (iteP1 q2))), fun q2 => g_isSign (by decide) hs1 ⟨fun q3 => bd (Or.inr (Or.inr (iteP1 q3))), fun q3 => g_fail (by decide) hc1 hl1 hs1 (fun h2 a2 b2 => hK' h2 (by rw [if_neg (fun z => z.elim (iteP0 q) (fun z => z.elim (iteP0 q2) (iteP0 q3)))]; exact a2) b2)⟩⟩⟩) ?_
    intro hsg
    rw [if_pos hsg] at hK'
    have sg := sgn_go (B := B) (n := n) (a := a) (by omega)
    have ev : h1 3 5 = sgn B n a := by
      have t := (hs1.1.2.2.2.2.2 sg.2.2)
      unfold sgn
      rw [if_pos sg.2.2]
      exact t
    rw [ev]
    refine g_step hc1 hs1 (fun h2 hs2 f2 => ?_)
    have hc2 := ctG_fr hc1 f2
    have te := tE_le (B := B) l1.2.1
    refine hm h2 _ (.inl (tE B n a, c)) hc2 hs2 ⟨by show 0 ≤ tE B n a; omega, te, by show (c.length : Int) ≤ tE B n a; omega⟩ (fun h3 hs3 f3 => ?_)
    have hc3 := ctG_fr hc2 f3
    rw [hc3.2.1.1]
    exact g_add (by omega) hc.2.2 hn.2.1 hs3 (len_bnd hS (r := .inl (tE B n a, c)) ⟨by show 0 ≤ tE B n a; omega, te, by show (c.length : Int) ≤ tE B n a; omega⟩) (fun h4 hs4 f4 => hK' h4 hs4 (frG_tr f2 (frG_tr f3 f4)))
end
end
