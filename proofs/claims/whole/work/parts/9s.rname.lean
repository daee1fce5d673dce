section
-- the reference: a new name, a grave's or a person's row
def tkM (h : Hp) (B : Int → Int) (n : Int) (t : TS) : Prop := match t with
  | .inl a => refS h B n a
  | .inr z => fltM h z.1 z.2
def nmM (h : Hp) (D : Yd) : Prop := (h 1028 0 = D 0 0 ∧ h 1028 1 = D 0 1) ∧ (0 ≤ D 0 0 ∧ D 0 0 ≤ 6 ∧ 0 ≤ D 0 1 ∧ D 0 1 ≤ 8) ∧ (∀ j, 0 ≤ j → j < D 0 0 → h 1029 j = D 10 j) ∧ ∀ j, 0 ≤ j → j < D 0 1 → h 1029 (8 + j) = D 10 (6 + j)
def nmS (hh : Hp) (v : Int) (S : Int → Prop) (h : Hp) : Prop := ((hh 1000 5 = 0 ∧ ∃ e, S e ∧ hh 1029 e = v) → fltM h 3 (hh 1000 36)) ∧ (¬ (hh 1000 5 = 0 ∧ ∃ e, S e ∧ hh 1029 e = v) → h = hh) ∧ (∀ i k, ¬ (i = 1000 ∧ (k = 5 ∨ k = 6)) → h i k = hh i k)
section
variable {h h0 h' : Hp} {B : Int → Int} {n a : Int} {t : TS} {K : Int → Hp → Prop} {D : Yd}
theorem r_asks2 {w : Int} (hw : idW w) (ht : txM h B n) (hk : tkM h B n t) (hK : ∀ h', tkM h' B n (tb B n t (pWrd B n (wnM w))) → frX h h' → K 0 h') : m_Model_asks [1000, w] h K := by
  cases t with
  | inr z => exact r_asksF (by rw [hk.1]; exact hk.2.2) (hK h hk frX_rf)
  | inl a =>
    unfold tb pWrd at hK
    dsimp only at hK
    refine r_asks hw ht hk (fun q h1 r1 f1 => ?_) (fun q h1 r1 f1 => ?_)
    · rw [if_pos q] at hK; exact hK h1 r1 f1
    · rw [if_neg q] at hK; exact hK h1 r1 f1
theorem r_asksSign2 {x : Int} (hx : 0 ≤ x ∧ aln x = false) (ht : txM h B n) (hk : tkM h B n t) (hK : ∀ h', tkM h' B n (tb B n t (pSg B n x)) → frX h h' → K 0 h') : m_Model_asksSign [1000, x] h K := by
  cases t with
  | inr z => exact r_asksSignF (by rw [hk.1]; exact hk.2.2) (hK h hk frX_rf)
  | inl a =>
    unfold tb pSg at hK
    dsimp only at hK
    refine r_asksSign hx ht hk (fun q h1 r1 f1 => ?_) (fun q h1 r1 f1 => ?_)
    · rw [if_pos q] at hK; exact hK h1 r1 f1
    · rw [if_neg q] at hK; exact hK h1 r1 f1
theorem r_number2 {l m : Int} (ht : txM h B n) (hk : tkM h B n t) (hK : ∀ v h', (∀ a, t = .inl a → pNum B n l m a = none → v = tN B n a) → tkM h' B n (tb B n t (pNum B n l m)) → frX h h' → K v h') : m_Model_number [1000, l, m] h K := by
  cases t with
  | inr z => exact r_numberF (by rw [hk.1]; exact hk.2.2) (hK 0 h (fun a e => by cases e) hk frX_rf)
  | inl a =>
    refine r_number ht hk (fun q1 q2 q3 h1 r1 f1 => ?_) (fun v k p hc hv h1 l1 f1 => ?_)
    · have e : pNum B n l m a = none := by unfold pNum; rw [if_pos q1, if_neg (by omega), if_pos q3]
      refine hK _ h1 (fun a' e' _ => by rw [← Sum.inl.inj e']) ?_ f1
      unfold tb
      dsimp only
      rw [e]; exact r1
    · have e : pNum B n l m a = some (k, p) := by
        unfold pNum
        rcases hc with ⟨q1, rfl, rfl⟩ | ⟨q1, q2, rfl, rfl⟩ | ⟨q1, q2, q3, rfl, rfl⟩
        · rw [if_neg q1]
        · rw [if_pos q1, if_pos q2]
        · rw [if_pos q1, if_neg (by omega), if_neg q3]
      refine hK v h1 (fun a' e' q => ?_) ?_ f1
      · rw [← Sum.inl.inj e', e] at q; cases q
      · unfold tb
        dsimp only
        rw [e]; exact l1
theorem r_tail {w1 l1 m1 w2 l2 m2 w3 l3 m3 : Int} {K' : Int → Int → Int → Hp → Prop} (hw : idW w1 ∧ idW w2 ∧ idW w3) (ht : txM h B n) (hk : tkM h B n t)
    (hK : ∀ x y z h', tkM h' B n (tb B n (tb B n (tb B n (tb B n (tb B n (tb B n t (pWrd B n (wnM w1))) (pNum B n l1 m1)) (pWrd B n (wnM w2))) (pNum B n l2 m2)) (pWrd B n (wnM w3))) (pNum B n l3 m3)) → (∀ b, tb B n (tb B n (tb B n (tb B n (tb B n (tb B n t (pWrd B n (wnM w1))) (pNum B n l1 m1)) (pWrd B n (wnM w2))) (pNum B n l2 m2)) (pWrd B n (wnM w3))) (pNum B n l3 m3) = .inl b → ∃ a, t = .inl a ∧ x = tN B n (tI B n a 1) ∧ y = tN B n (tI B n a 3) ∧ z = tN B n (tI B n a 5)) → frX h h' → K' x y z h') :
    m_Model_asks [1000, w1] h (fun _ h2 => m_Model_number [1000, l1, m1] h2 (fun x h3 => m_Model_asks [1000, w2] h3 (fun _ h4 => m_Model_number [1000, l2, m2] h4 (fun y h5 => m_Model_asks [1000, w3] h5 (fun _ h6 => m_Model_number [1000, l3, m3] h6 (fun z h7 => K' x y z h7)))))) := by
  refine r_asks2 hw.1 ht hk (fun h2 k2 f2 => ?_)
  have t2 := txM_X ht f2
  refine r_number2 t2 k2 (fun x3 h3 v3 k3 f3 => ?_)
  have t3 := txM_X t2 f3
  refine r_asks2 hw.2.1 t3 k3 (fun h4 k4 f4 => ?_)
  have t4 := txM_X t3 f4
  refine r_number2 t4 k4 (fun x5 h5 v5 k5 f5 => ?_)
  have t5 := txM_X t4 f5
  refine r_asks2 hw.2.2 t5 k5 (fun h6 k6 f6 => ?_)
  have t6 := txM_X t5 f6
  refine r_number2 t6 k6 (fun x7 h7 v7 k7 f7 => ?_)
  refine hK x3 x5 x7 h7 k7 (fun b hb => ?_) (frX_tr f2 (frX_tr f3 (frX_tr f4 (frX_tr f5 (frX_tr f6 f7)))))
  obtain ⟨a6, q6, p6, -⟩ := tb_l hb
  obtain ⟨a5, q5, p5, r5⟩ := tb_l q6
  obtain ⟨a4, q4, p4, r4⟩ := tb_l q5
  obtain ⟨a3, q3, p3, r3⟩ := tb_l q4
  obtain ⟨a2, q2, p2, r2⟩ := tb_l q3
  obtain ⟨a1, q1, p1, r1⟩ := tb_l q2
  refine ⟨a1, q1, ?_, ?_, ?_⟩
  · rw [v3 a2 q2 p2, r1]; rfl
  · rw [v5 a4 q4 p4, r3, r2, r1]; rfl
  · rw [v7 a6 q6 p6, r5, r4, r3, r2, r1]; rfl
theorem nmS_ext {v : Int} {S S' : Int → Prop} (hs : nmS h0 v S h) (he : ∀ e, S' e ↔ S e) : nmS h0 v S' h := by
  have e : (∃ e, S' e ∧ h0 1029 e = v) ↔ ∃ e, S e ∧ h0 1029 e = v := ⟨fun ⟨e, a, b⟩ => ⟨e, (he e).mp a, b⟩, fun ⟨e, a, b⟩ => ⟨e, (he e).mpr a, b⟩⟩
  unfold nmS
  rw [e]
  exact hs
theorem nmS_step {v e : Int} {S : Int → Prop} {X : Hp → Prop} (hs : nmS h0 v S h) (hX : ∀ h', nmS h0 v (fun x => S x ∨ x = e) h' → X h') : (h 1000 5 = 0 → (h 1029 e = v → m_Model_fail [1000, 3, h 1000 36] h (fun _ h' => X h')) ∧ (¬ h 1029 e = v → X h)) ∧ (¬ h 1000 5 = 0 → X h) := by
  obtain ⟨s1, s2, s3⟩ := hs
  have e29 : h 1029 e = h0 1029 e := s3 _ _ (by omega)
  have e36 : h 1000 36 = h0 1000 36 := s3 _ _ (by omega)
  refine ⟨fun z => ⟨fun y => ?_, fun y => ?_⟩, fun z => ?_⟩
  · have nf : ¬ (h0 1000 5 = 0 ∧ ∃ e, S e ∧ h0 1029 e = v) := fun q => by
      have := s1 q
      exact this.2.2 (this.1.symm.trans z)
    have eh := s2 nf
    subst eh
    refine r_fail z (by decide) (fun h1 l1 f1 => hX h1 ⟨fun _ => l1, fun q => absurd ⟨z, e, Or.inr rfl, y⟩ q, f1⟩)
  · have nf : ¬ (h0 1000 5 = 0 ∧ ∃ e, S e ∧ h0 1029 e = v) := fun q => by
      have := s1 q
      exact this.2.2 (this.1.symm.trans z)
    have eh := s2 nf
    subst eh
    refine hX h ⟨fun q => ?_, fun _ => rfl, fun _ _ _ => rfl⟩
    obtain ⟨q0, x, hx | hx, hv⟩ := q
    · exact absurd ⟨q0, x, hx, hv⟩ nf
    · rw [hx] at hv; exact absurd hv y
  · by_cases q : h0 1000 5 = 0 ∧ ∃ e, S e ∧ h0 1029 e = v
    · refine hX h ⟨fun _ => s1 q, fun y => absurd ⟨q.1, q.2.elim (fun x hx => ⟨x, Or.inl hx.1, hx.2⟩)⟩ y, s3⟩
    · have eh := s2 q
      subst eh
      exact hX h ⟨fun y => absurd y.1 z, fun _ => rfl, fun _ _ _ => rfl⟩
theorem r_newName (ht : txM h B n) (hr : refS h B n a) (hn : nmM h D) (hK : ∀ v h', (pNam B n (thB D) a = none → v = nmV B n a) → tkM h' B n (tb B n (.inl a) (pNam B n (thB D))) → frX h h' → K v h') : m_Model_newName [1000] h K := by
  have loops : ∀ v (hh : Hp), frX h hh → (∀ h', nmS hh v (fun e => (0 ≤ e ∧ e < D 0 0) ∨ (8 ≤ e ∧ e < 8 + D 0 1)) h' → K v h') → og_cut (og_seq (og_set 3 (og_k 0)) (og_while (og_cc og_rlt (og_loc 3) (og_k 2)) (og_seq (og_set 4 (og_k 0)) (og_while (og_cc og_rlt (og_loc 4) (og_ald 4 (og_fix (fun _ => 1028) (og_loc 0)) (og_loc 3))) (og_if (og_and (og_cc og_req (og_get 5 (og_loc 0)) (og_k 0)) (og_cc og_req (og_ald 32 (og_fix (fun _ => 1029) (og_loc 0)) (og_add (og_mul (og_k 8) (og_loc 3)) (og_loc 4))) (og_loc 1))) (og_exp (og_call m_Model_fail [og_loc 0, og_k 3, og_get 36 (og_loc 0)])) (og_skip)) (og_inc 4 1))) (og_inc 3 1))) (og_ret (og_loc 1)) [1000, v, 0, 0, 0] hh (fun _ h' => (1 : Nat) = 2 ∧ K 0 h') K (fun _ _ => False) (fun _ _ => False) := by
    intro v hh fx hK
    have d0 : hh 1028 0 = D 0 0 := (fx _ _ (by omega)).trans hn.1.1
    have d1 : hh 1028 1 = D 0 1 := (fx _ _ (by omega)).trans hn.1.2
    have dm := hn.2.1
    refine ⟨fun e1 h1 => (∃ x y, e1 = [1000, v, 0, x, y]) ∧ nmS hh v (fun e => (0 ≤ e ∧ e < D 0 0) ∨ (8 ≤ e ∧ e < 8 + D 0 1)) h1, ?_, ?_⟩
    · simp -implicitDefEqProofs only [↓dn_den, ↓dn_loc, ↓dn_k, ↓dn_add, ↓dn_sub, ↓dn_mul, ↓dn_div, ↓dn_rem, ↓dn_bop, ↓dn_ladd, ↓dn_lsub, ↓dn_lmul, ↓dn_ldiv, ↓dn_lrem, ↓dn_land, ↓dn_l2i, ↓dn_neg, ↓dn_get, ↓dn_fix, ↓dn_ald, ↓dn_gld, ↓dn_yld, ↓dn_len, ↓dn_gln, ↓dn_cc, ↓dn_cb, ↓dn_and, ↓dn_or, ↓dn_not, ↓dn_cite, ↓dn_ec, ↓dn_ei, ↓dn_skip, ↓dn_seq, ↓dn_set, ↓dn_inc, ↓dn_putf, ↓dn_putz, ↓dn_ast, ↓dn_exp, ↓dn_if, ↓dn_ret, ↓dn_retz, ↓dn_retv, ↓dn_brk, ↓dn_cont, ↓dn_cs, ↓dn_sw, ↓dn_pop32, ↓dn_pop64, ↓dn_aop, ↓dn_call, ↓dn_max, ↓dn_min, ↓dn_acp, ↓dn_i2l, ↓dn_args0, ↓dn_args1, og_pad, og_ent, og_rlt, og_rle, og_rgt, og_rge, og_req, og_rne, og_padd, og_psub, og_pmul, List.getD_cons_zero, List.getD_cons_succ, List.set_cons_zero, List.set_cons_succ, List.length_cons, List.length_nil, List.cons_append, List.nil_append, List.replicate, List.append_nil, Nat.reduceAdd, Nat.reduceSub, Nat.reduceEqDiff, if_true, if_false, reduceIte, Int.reduceAdd, Int.reduceSub, Int.reduceMul, Int.reduceNeg, Int.reduceLT, Int.reduceLE, Int.cast_ofNat_Int, true_or, or_true, true_and, and_true, false_and, List.mem_cons, List.not_mem_nil, or_false, false_or, ne_eq]
      refine og_loop 2 (fun i e1 h1 => (∃ y, e1 = [1000, v, 0, (i : Int), y]) ∧ nmS hh v (fun e => (1 ≤ i ∧ 0 ≤ e ∧ e < D 0 0) ∨ (2 ≤ i ∧ 8 ≤ e ∧ e < 8 + D 0 1)) h1) ⟨⟨0, rfl⟩, fun q => ?_, fun _ => rfl, fun _ _ _ => rfl⟩ ?_
      · obtain ⟨-, e, he, -⟩ := q
        omega
      rintro i e1 h1 hi ⟨⟨y, rfl⟩, s1⟩
      simp -implicitDefEqProofs only [↓dn_den, ↓dn_loc, ↓dn_k, ↓dn_add, ↓dn_sub, ↓dn_mul, ↓dn_div, ↓dn_rem, ↓dn_bop, ↓dn_ladd, ↓dn_lsub, ↓dn_lmul, ↓dn_ldiv, ↓dn_lrem, ↓dn_land, ↓dn_l2i, ↓dn_neg, ↓dn_get, ↓dn_fix, ↓dn_ald, ↓dn_gld, ↓dn_yld, ↓dn_len, ↓dn_gln, ↓dn_cc, ↓dn_cb, ↓dn_and, ↓dn_or, ↓dn_not, ↓dn_cite, ↓dn_ec, ↓dn_ei, ↓dn_skip, ↓dn_seq, ↓dn_set, ↓dn_inc, ↓dn_putf, ↓dn_putz, ↓dn_ast, ↓dn_exp, ↓dn_if, ↓dn_ret, ↓dn_retz, ↓dn_retv, ↓dn_brk, ↓dn_cont, ↓dn_cs, ↓dn_sw, ↓dn_pop32, ↓dn_pop64, ↓dn_aop, ↓dn_call, ↓dn_max, ↓dn_min, ↓dn_acp, ↓dn_i2l, ↓dn_args0, ↓dn_args1, og_pad, og_ent, og_rlt, og_rle, og_rgt, og_rge, og_req, og_rne, og_padd, og_psub, og_pmul, List.getD_cons_zero, List.getD_cons_succ, List.set_cons_zero, List.set_cons_succ, List.length_cons, List.length_nil, List.cons_append, List.nil_append, List.replicate, List.append_nil, Nat.reduceAdd, Nat.reduceSub, Nat.reduceEqDiff, if_true, if_false, reduceIte, Int.reduceAdd, Int.reduceSub, Int.reduceMul, Int.reduceNeg, Int.reduceLT, Int.reduceLE, Int.cast_ofNat_Int, true_or, or_true, true_and, and_true, false_and, List.mem_cons, List.not_mem_nil, or_false, false_or, ne_eq, og_i32]
      refine ⟨fun hlt => ?_, fun hge => ?_⟩
      · have hm : ∃ m : Nat, (m : Int) = hh 1028 i ∧ m ≤ 8 ∧ (i = 0 → (m : Int) = D 0 0) ∧ (i = 1 → (m : Int) = D 0 1) := by
          have hi2 : i = 0 ∨ i = 1 := by omega
          rcases hi2 with rfl | rfl
          · exact ⟨(D 0 0).toNat, by rw [show ((0 : Nat) : Int) = 0 from rfl, d0]; omega, by omega, fun _ => by omega, fun z => by omega⟩
          · exact ⟨(D 0 1).toNat, by rw [show ((1 : Nat) : Int) = 1 from rfl, d1]; omega, by omega, fun z => by omega, fun _ => by omega⟩
        obtain ⟨m, hm1, hm2, hm3, hm4⟩ := hm
        refine og_loop m (fun j e2 h2 => e2 = [1000, v, 0, (i : Int), (j : Int)] ∧ nmS hh v (fun e => ((1 ≤ i ∧ 0 ≤ e ∧ e < D 0 0) ∨ (2 ≤ i ∧ 8 ≤ e ∧ e < 8 + D 0 1)) ∨ (8 * (i : Int) ≤ e ∧ e < 8 * (i : Int) + j)) h2) ⟨rfl, nmS_ext s1 (fun e => by omega)⟩ ?_
        rintro j e2 h2 hj ⟨rfl, s2⟩
        simp -implicitDefEqProofs only [↓dn_den, ↓dn_loc, ↓dn_k, ↓dn_add, ↓dn_sub, ↓dn_mul, ↓dn_div, ↓dn_rem, ↓dn_bop, ↓dn_ladd, ↓dn_lsub, ↓dn_lmul, ↓dn_ldiv, ↓dn_lrem, ↓dn_land, ↓dn_l2i, ↓dn_neg, ↓dn_get, ↓dn_fix, ↓dn_ald, ↓dn_gld, ↓dn_yld, ↓dn_len, ↓dn_gln, ↓dn_cc, ↓dn_cb, ↓dn_and, ↓dn_or, ↓dn_not, ↓dn_cite, ↓dn_ec, ↓dn_ei, ↓dn_skip, ↓dn_seq, ↓dn_set, ↓dn_inc, ↓dn_putf, ↓dn_putz, ↓dn_ast, ↓dn_exp, ↓dn_if, ↓dn_ret, ↓dn_retz, ↓dn_retv, ↓dn_brk, ↓dn_cont, ↓dn_cs, ↓dn_sw, ↓dn_pop32, ↓dn_pop64, ↓dn_aop, ↓dn_call, ↓dn_max, ↓dn_min, ↓dn_acp, ↓dn_i2l, ↓dn_args0, ↓dn_args1, og_pad, og_ent, og_rlt, og_rle, og_rgt, og_rge, og_req, og_rne, og_padd, og_psub, og_pmul, List.getD_cons_zero, List.getD_cons_succ, List.set_cons_zero, List.set_cons_succ, List.length_cons, List.length_nil, List.cons_append, List.nil_append, List.replicate, List.append_nil, Nat.reduceAdd, Nat.reduceSub, Nat.reduceEqDiff, if_true, if_false, reduceIte, Int.reduceAdd, Int.reduceSub, Int.reduceMul, Int.reduceNeg, Int.reduceLT, Int.reduceLE, Int.cast_ofNat_Int, true_or, or_true, true_and, and_true, false_and, List.mem_cons, List.not_mem_nil, or_false, false_or, ne_eq, og_i32]
        rw [s2.2.2 1028 _ (by omega), ← hm1]
        refine ⟨by omega, by omega, fun hlt2 => ?_, fun hge2 => ?_⟩
        · have st := nmS_step (e := 8 * (i : Int) + j) (X := fun h3 => (-2147483648 ≤ (j : Int) + 1 ∧ (j : Int) + 1 ≤ 2147483647) ∧ og_nx m (fun j e2 h2 => e2 = [1000, v, 0, (i : Int), (j : Int)] ∧ nmS hh v (fun e => ((1 ≤ i ∧ 0 ≤ e ∧ e < D 0 0) ∨ (2 ≤ i ∧ 8 ≤ e ∧ e < 8 + D 0 1)) ∨ (8 * (i : Int) ≤ e ∧ e < 8 * (i : Int) + j)) h2) j [1000, v, 0, (i : Int), (j : Int) + 1] h3) s2 (fun h3 s3 => ⟨by omega, og_nx_mk (by omega) ⟨by simp, nmS_ext s3 (fun e => by omega)⟩⟩)
          refine ⟨fun z => ⟨by omega, by omega, by omega, by omega, fun y => (st.1 z).1 y, fun y => (st.1 z).2 y⟩, fun z => st.2 z⟩
        · refine ⟨by omega, og_nx_mk (by omega) ⟨⟨_, by simp; rfl⟩, nmS_ext s2 (fun e => ?_)⟩⟩
          have hi2 : i = 0 ∨ i = 1 := by omega
          rcases hi2 with rfl | rfl
          · have := hm3 rfl
            omega
          · have := hm4 rfl
            omega
      · refine ⟨⟨_, _, rfl⟩, nmS_ext s1 (fun e => by omega)⟩
    · rintro e1 h1 ⟨⟨x, y, rfl⟩, s1⟩
      simp -implicitDefEqProofs only [↓dn_den, ↓dn_loc, ↓dn_k, ↓dn_add, ↓dn_sub, ↓dn_mul, ↓dn_div, ↓dn_rem, ↓dn_bop, ↓dn_ladd, ↓dn_lsub, ↓dn_lmul, ↓dn_ldiv, ↓dn_lrem, ↓dn_land, ↓dn_l2i, ↓dn_neg, ↓dn_get, ↓dn_fix, ↓dn_ald, ↓dn_gld, ↓dn_yld, ↓dn_len, ↓dn_gln, ↓dn_cc, ↓dn_cb, ↓dn_and, ↓dn_or, ↓dn_not, ↓dn_cite, ↓dn_ec, ↓dn_ei, ↓dn_skip, ↓dn_seq, ↓dn_set, ↓dn_inc, ↓dn_putf, ↓dn_putz, ↓dn_ast, ↓dn_exp, ↓dn_if, ↓dn_ret, ↓dn_retz, ↓dn_retv, ↓dn_brk, ↓dn_cont, ↓dn_cs, ↓dn_sw, ↓dn_pop32, ↓dn_pop64, ↓dn_aop, ↓dn_call, ↓dn_max, ↓dn_min, ↓dn_acp, ↓dn_i2l, ↓dn_args0, ↓dn_args1, og_pad, og_ent, og_rlt, og_rle, og_rgt, og_rge, og_req, og_rne, og_padd, og_psub, og_pmul, List.getD_cons_zero, List.getD_cons_succ, List.set_cons_zero, List.set_cons_succ, List.length_cons, List.length_nil, List.cons_append, List.nil_append, List.replicate, List.append_nil, Nat.reduceAdd, Nat.reduceSub, Nat.reduceEqDiff, if_true, if_false, reduceIte, Int.reduceAdd, Int.reduceSub, Int.reduceMul, Int.reduceNeg, Int.reduceLT, Int.reduceLE, Int.cast_ofNat_Int, true_or, or_true, true_and, and_true, false_and, List.mem_cons, List.not_mem_nil, or_false, false_or, ne_eq]
      exact hK h1 s1
  unfold m_Model_newName
  simp -implicitDefEqProofs only [↓dn_den, ↓dn_loc, ↓dn_k, ↓dn_add, ↓dn_sub, ↓dn_mul, ↓dn_div, ↓dn_rem, ↓dn_bop, ↓dn_ladd, ↓dn_lsub, ↓dn_lmul, ↓dn_ldiv, ↓dn_lrem, ↓dn_land, ↓dn_l2i, ↓dn_neg, ↓dn_get, ↓dn_fix, ↓dn_ald, ↓dn_gld, ↓dn_yld, ↓dn_len, ↓dn_gln, ↓dn_cc, ↓dn_cb, ↓dn_and, ↓dn_or, ↓dn_not, ↓dn_cite, ↓dn_ec, ↓dn_ei, ↓dn_skip, ↓dn_seq, ↓dn_set, ↓dn_inc, ↓dn_putf, ↓dn_putz, ↓dn_ast, ↓dn_exp, ↓dn_ret, ↓dn_retz, ↓dn_retv, ↓dn_brk, ↓dn_cont, ↓dn_cs, ↓dn_sw, ↓dn_pop32, ↓dn_pop64, ↓dn_aop, ↓dn_call, ↓dn_max, ↓dn_min, ↓dn_acp, ↓dn_i2l, ↓dn_args0, ↓dn_args1, og_pad, og_ent, og_rlt, og_rle, og_rgt, og_rge, og_req, og_rne, og_padd, og_psub, og_pmul, List.getD_cons_zero, List.getD_cons_succ, List.set_cons_zero, List.set_cons_succ, List.length_cons, List.length_nil, List.cons_append, List.nil_append, List.replicate, List.append_nil, Nat.reduceAdd, Nat.reduceSub, Nat.reduceEqDiff, if_true, if_false, reduceIte, Int.reduceAdd, Int.reduceSub, Int.reduceMul, Int.reduceNeg, Int.reduceLT, Int.reduceLE, Int.cast_ofNat_Int, true_or, or_true, true_and, and_true, false_and, List.mem_cons, List.not_mem_nil, or_false, false_or, ne_eq]
  refine r_name ht hr (fun q1 q2 h1 r1 e36 f1 => ?_) (fun p hc h1 l1 f1 => ?_)
  · refine loops _ h1 f1 (fun h2 s2 => ?_)
    have nk := nmV_ok hr.2.1.1 hr.2.1.2 q1.1 q2
    have ti := thB_iff (D := D) (v := nmV B n a) hn.2.1.1 hn.2.1.2.2.1
    have ex : (h1 1000 5 = 0 ∧ ∃ e, ((0 ≤ e ∧ e < D 0 0) ∨ (8 ≤ e ∧ e < 8 + D 0 1)) ∧ h1 1029 e = nmV B n a) ↔ thB D (nmV B n a) = true := by
      rw [ti]
      constructor
      · rintro ⟨-, e, he | he, hv⟩
        · exact ⟨e, Or.inl he, by rw [← hn.2.2.1 e he.1 he.2, ← f1 _ _ (by omega)]; exact hv⟩
        · exact ⟨e - 2, Or.inr (by omega), by
            have := hn.2.2.2 (e - 8) (by omega) (by omega)
            rw [show 8 + (e - 8) = e by omega, show 6 + (e - 8) = e - 2 by omega] at this
            rw [← this, ← f1 _ _ (by omega)]; exact hv⟩
      · rintro ⟨j, hj | hj, hv⟩
        · exact ⟨r1.1.1, j, Or.inl hj, by rw [f1 _ _ (by omega), hn.2.2.1 j hj.1 hj.2]; exact hv⟩
        · refine ⟨r1.1.1, j + 2, Or.inr (by omega), ?_⟩
          have := hn.2.2.2 (j - 6) (by omega) (by omega)
          rw [show 8 + (j - 6) = j + 2 by omega, show 6 + (j - 6) = j by omega] at this
          rw [f1 _ _ (by omega), this]; exact hv
    obtain ⟨s1, s2, s3⟩ := s2
    have f2 : frX h h2 := frX_tr f1 (fun i k hp => s3 i k (by omega))
    by_cases th : thB D (nmV B n a) = true
    · have e : pNam B n (thB D) a = some (3, tS B n a) := by unfold pNam; unfold isNm at q1; rw [if_pos q1, if_neg (by omega), if_pos th]
      refine hK _ h2 (fun z => by rw [e] at z; cases z) ?_ f2
      unfold tb
      dsimp only
      rw [e]
      have := s1 (ex.mpr th)
      rw [e36] at this
      exact this
    · have e : pNam B n (thB D) a = none := by unfold pNam; unfold isNm at q1; rw [if_pos q1, if_neg (by omega), if_neg th]
      refine hK _ h2 (fun _ => rfl) ?_ f2
      unfold tb
      dsimp only
      rw [e, s2 (fun z => th (ex.mp z))]
      exact r1
  · refine loops _ h1 f1 (fun h2 s2 => ?_)
    obtain ⟨s1, s2, s3⟩ := s2
    have eh := s2 (fun z => l1.2.2 (l1.1.symm.trans z.1))
    rw [eh]
    have e : pNam B n (thB D) a = some (1, p) := by
      unfold pNam
      unfold isNm at hc
      rcases hc with ⟨q1, rfl⟩ | ⟨q1, q2, rfl⟩
      · rw [if_neg q1]
      · rw [if_pos q1, if_pos q2]
    refine hK _ h1 (fun z => by rw [e] at z; cases z) ?_ f1
    unfold tb
    dsimp only
    rw [e]; exact l1
end
end
