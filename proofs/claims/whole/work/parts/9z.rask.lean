section
-- questions: the reference
def ph (C : og_Cd) (env : List Int) (h : Hp) (P : Prop) : Prop := ∀ (T F : Hp → Prop), (P → T h) → (¬ P → F h) → C env h T F
theorem ph_and {C E : og_Cd} {env : List Int} {h : Hp} {P Q : Prop} (hC : ph C env h P) (hE : ph E env h Q) : ph (og_and C E) env h (P ∧ Q) := fun T F a b => by
  rw [dn_and]
  exact hC _ _ (fun p => hE _ _ (fun q => a ⟨p, q⟩) (fun q => b (fun z => q z.2))) (fun p => b (fun z => p z.1))
theorem ph_or {C E : og_Cd} {env : List Int} {h : Hp} {P Q : Prop} (hC : ph C env h P) (hE : ph E env h Q) : ph (og_or C E) env h (P ∨ Q) := fun T F a b => by
  rw [dn_or]
  exact hC _ _ (fun p => a (Or.inl p)) (fun p => hE _ _ (fun q => a (Or.inr q)) (fun q => b (fun z => z.elim p q)))
theorem ph_lk {r : Int → Int → Prop} {k : Nat} {x : Int} {env : List Int} {h : Hp} : ph (og_cc r (og_loc k) (og_k x)) env h (r (env.getD k 0) x) := fun T F a b => ⟨a, b⟩
theorem ph_gk {r : Int → Int → Prop} {k j : Nat} {x : Int} {env : List Int} {h : Hp} : ph (og_cc r (og_get k (og_loc j)) (og_k x)) env h (r (h (env.getD j 0) (k : Int)) x) := fun T F a b => ⟨a, b⟩
theorem ph_lg {r : Int → Int → Prop} {k j i : Nat} {env : List Int} {h : Hp} : ph (og_cc r (og_loc i) (og_get k (og_loc j))) env h (r (env.getD i 0) (h (env.getD j 0) (k : Int))) := fun T F a b => ⟨a, b⟩
theorem ph_cb {k : Nat} {env : List Int} {h : Hp} : ph (og_cb (og_loc k)) env h (¬ env.getD k 0 = 0) := fun T F a b => ⟨a, fun z => b (fun q => q z)⟩
theorem ph_cg {k j : Nat} {env : List Int} {h : Hp} : ph (og_cb (og_get k (og_loc j))) env h (¬ h (env.getD j 0) (k : Int) = 0) := fun T F a b => ⟨a, fun z => b (fun q => q z)⟩
theorem ph_cite {C E G : og_Cd} {env : List Int} {h : Hp} {P Q R : Prop} (hC : ph C env h P) (hE : ph E env h Q) (hG : ph G env h R) : ph (og_cite C E G) env h ((P ∧ Q) ∨ (¬ P ∧ R)) := fun T F a b => by
  rw [dn_cite]
  exact hC _ _ (fun p => hE _ _ (fun q => a (Or.inl ⟨p, q⟩)) (fun q => b (fun z => z.elim (fun y => q y.2) (fun y => y.1 p)))) (fun p => hG _ _ (fun q => a (Or.inr ⟨p, q⟩)) (fun q => b (fun z => z.elim (fun y => p y.1) (fun y => q y.2))))
theorem ph_if {C : og_Cd} {s1 s2 : og_St} {env : List Int} {h : Hp} {P : Prop} {N : List Int → Hp → Prop} {R : Int → Hp → Prop} {Bk Ct : List Int → Hp → Prop} (hC : ph C env h P) (a : P → s1 env h N R Bk Ct) (b : ¬ P → s2 env h N R Bk Ct) : og_if C s1 s2 env h N R Bk Ct := by
  rw [dn_if]
  exact hC _ _ a b
theorem ph_ec {C : og_Cd} {env : List Int} {h : Hp} {P : Prop} {K : Int → Hp → Prop} (hC : ph C env h P) (hK : ∀ x, ((x = 1 ∧ P) ∨ (x = 0 ∧ ¬ P)) → K x h) : og_ec C env h K := by
  rw [dn_ec]
  exact hC _ _ (fun p => hK 1 (Or.inl ⟨rfl, p⟩)) (fun p => hK 0 (Or.inr ⟨rfl, p⟩))
section
variable {h h0 h' : Hp} {B : Int → Int} {n a : Int} {K : Int → Hp → Prop} {A : Yd}
theorem r_qOf {d v p : Int} (hd : d = 0 ∨ d = 1) (hm : isM h A) (ho : okV A p) (hv : -1000000 ≤ v ∧ v ≤ 1000000) (hK : K (sSingle A p (-1 - dc (60 + d)) v) h) : m_Model_qOf [1000, d, v, p] h K := by
  unfold m_Model_qOf
  rcases hd with rfl | rfl
  · simp -implicitDefEqProofs only [↓dn_den, ↓dn_loc, ↓dn_k, ↓dn_add, ↓dn_sub, ↓dn_mul, ↓dn_div, ↓dn_rem, ↓dn_bop, ↓dn_ladd, ↓dn_lsub, ↓dn_lmul, ↓dn_ldiv, ↓dn_lrem, ↓dn_land, ↓dn_l2i, ↓dn_neg, ↓dn_get, ↓dn_fix, ↓dn_ald, ↓dn_gld, ↓dn_yld, ↓dn_len, ↓dn_gln, ↓dn_cc, ↓dn_cb, ↓dn_and, ↓dn_or, ↓dn_not, ↓dn_cite, ↓dn_ec, ↓dn_ei, ↓dn_skip, ↓dn_seq, ↓dn_set, ↓dn_inc, ↓dn_putf, ↓dn_putz, ↓dn_ast, ↓dn_exp, ↓dn_if, ↓dn_ret, ↓dn_retz, ↓dn_retv, ↓dn_brk, ↓dn_cont, ↓dn_cs, ↓dn_sw, ↓dn_pop32, ↓dn_pop64, ↓dn_aop, ↓dn_call, ↓dn_max, ↓dn_min, ↓dn_acp, ↓dn_i2l, ↓dn_args0, ↓dn_args1, og_pad, og_ent, og_rlt, og_rle, og_rgt, og_rge, og_req, og_rne, og_padd, og_psub, og_pmul, List.getD_cons_zero, List.getD_cons_succ, List.set_cons_zero, List.set_cons_succ, List.length_cons, List.length_nil, List.cons_append, List.nil_append, List.replicate, List.append_nil, Nat.reduceAdd, Nat.reduceSub, Nat.reduceEqDiff, if_true, if_false, reduceIte, Int.reduceAdd, Int.reduceSub, Int.reduceMul, Int.reduceNeg, Int.reduceLT, Int.reduceLE, Int.cast_ofNat_Int, true_or, or_true, true_and, and_true, false_and, List.mem_cons, List.not_mem_nil, or_false, false_or, ne_eq, og_i32]
    simp only [Int.reduceAdd, Int.add_zero] at hK
    have e : -1 - dc 60 = 18 := by decide
    rw [e] at hK
    unfold sSingle at hK
    rw [if_neg (by decide)] at hK
    refine ⟨fun _ => ?_, fun z => absurd (by trivial) z⟩
    refine r_isGrave hm ho.1 ⟨fun z => ?_, fun z => ?_⟩
    · have z := iteP1 z
      rw [if_neg (by omega), if_neg (by decide)] at hK
      refine ⟨by omega, r_doesFit hm ho.1 ho.2.1 ho.2.2 z.1 z.2 ⟨fun y => ?_, fun y => ?_⟩⟩
      · have y := ite10 y
        unfold sFit at y
        rw [if_pos (by simpa using y)] at hK; exact hK
      · have y := ite00 y
        unfold sFit at y
        rw [if_neg (by simpa using y)] at hK; exact hK
    · have z := iteP0 z
      rw [if_pos (by omega)] at hK
      exact hK
  · simp -implicitDefEqProofs only [↓dn_den, ↓dn_loc, ↓dn_k, ↓dn_add, ↓dn_sub, ↓dn_mul, ↓dn_div, ↓dn_rem, ↓dn_bop, ↓dn_ladd, ↓dn_lsub, ↓dn_lmul, ↓dn_ldiv, ↓dn_lrem, ↓dn_land, ↓dn_l2i, ↓dn_neg, ↓dn_get, ↓dn_fix, ↓dn_ald, ↓dn_gld, ↓dn_yld, ↓dn_len, ↓dn_gln, ↓dn_cc, ↓dn_cb, ↓dn_and, ↓dn_or, ↓dn_not, ↓dn_cite, ↓dn_ec, ↓dn_ei, ↓dn_skip, ↓dn_seq, ↓dn_set, ↓dn_inc, ↓dn_putf, ↓dn_putz, ↓dn_ast, ↓dn_exp, ↓dn_if, ↓dn_ret, ↓dn_retz, ↓dn_retv, ↓dn_brk, ↓dn_cont, ↓dn_cs, ↓dn_sw, ↓dn_pop32, ↓dn_pop64, ↓dn_aop, ↓dn_call, ↓dn_max, ↓dn_min, ↓dn_acp, ↓dn_i2l, ↓dn_args0, ↓dn_args1, og_pad, og_ent, og_rlt, og_rle, og_rgt, og_rge, og_req, og_rne, og_padd, og_psub, og_pmul, List.getD_cons_zero, List.getD_cons_succ, List.set_cons_zero, List.set_cons_succ, List.length_cons, List.length_nil, List.cons_append, List.nil_append, List.replicate, List.append_nil, Nat.reduceAdd, Nat.reduceSub, Nat.reduceEqDiff, if_true, if_false, reduceIte, Int.reduceAdd, Int.reduceSub, Int.reduceMul, Int.reduceNeg, Int.reduceLT, Int.reduceLE, Int.cast_ofNat_Int, true_or, or_true, true_and, and_true, false_and, List.mem_cons, List.not_mem_nil, or_false, false_or, ne_eq, og_i32]
    have e : -1 - dc (60 + 1) = 3 := by decide
    rw [e] at hK
    unfold sSingle at hK
    rw [if_neg (by decide)] at hK
    refine ⟨fun z => absurd z (by decide), fun _ => ?_⟩
    refine r_isGrave hm ho.1 ⟨fun z => ?_, fun z => ?_⟩
    · have z := iteP1 z
      rw [if_neg (by omega), if_pos rfl] at hK
      exact ⟨by omega, r_dueOf hm ho.1 z.1 z.2 hK⟩
    · have z := iteP0 z
      rw [if_pos (by omega)] at hK
      exact hK
def qtJ (h : Hp) (p : Int) (A : Yd) (prog : List Int) (u : Bool) (i : Nat) (e1 : List Int) (h1 : Hp) : Prop := ∃ st ts c3, e1 = [1000, p, (i : Int), c3] ∧ st = sRun A p 0 (prog.take i) [] ∧ wtR (prog.drop i) ts = some [u] ∧ tyV ts st ∧ pileM h1 st ∧ frP h h1
theorem sPlain_rg {p d : Int} (ho : okV A p) : -1000000 ≤ sPlain A p 0 d ∧ sPlain A p 0 d ≤ 1000000 := by
  have h6 := ho.1.1
  have h8 := ho.1.2.2 p ho.2.1 ho.2.2
  have hp := ho.2
  unfold sPlain
  repeat' split
  all_goals omega
theorem sClip_id {x : Int} (h : -1000000 ≤ x ∧ x ≤ 1000000) : sClip x = x := by unfold sClip; omega
theorem sSingle_rg {p d v : Int} (ho : okV A p) (hd : d = 18 ∨ d = 3) : -1000000 ≤ sSingle A p d v ∧ sSingle A p d v ≤ 1000000 := by
  unfold sSingle
  rw [if_neg (by omega)]
  split
  · omega
  · rename_i q
    have h7 := ho.1.2.1 v (by omega) (by omega)
    repeat' split
    all_goals omega
theorem r_qTold {p : Int} {prog : List Int} {u : Bool} (hm : isM h A) (ho : okV A p) (h51 : h 1000 51 = p) (hc : cdM h prog) (hl : prog.length ≤ 1600) (hq : -15 ∉ prog ∧ -16 ∉ prog) (hwt : wtR prog [] = some [u])
    (hK : ∀ h', frP h h' → K (sVal prog A p 0) h') : m_Model_qTold [1000, p] h K := by
  unfold m_Model_qTold
  simp -implicitDefEqProofs only [↓dn_den, ↓dn_loc, ↓dn_k, ↓dn_add, ↓dn_sub, ↓dn_mul, ↓dn_div, ↓dn_rem, ↓dn_bop, ↓dn_ladd, ↓dn_lsub, ↓dn_lmul, ↓dn_ldiv, ↓dn_lrem, ↓dn_land, ↓dn_l2i, ↓dn_neg, ↓dn_get, ↓dn_fix, ↓dn_ald, ↓dn_gld, ↓dn_yld, ↓dn_len, ↓dn_gln, ↓dn_cc, ↓dn_cb, ↓dn_and, ↓dn_or, ↓dn_not, ↓dn_cite, ↓dn_ec, ↓dn_ei, ↓dn_skip, ↓dn_seq, ↓dn_set, ↓dn_inc, ↓dn_putf, ↓dn_putz, ↓dn_ast, ↓dn_exp, ↓dn_if, ↓dn_ret, ↓dn_retz, ↓dn_retv, ↓dn_brk, ↓dn_cont, ↓dn_cs, ↓dn_sw, ↓dn_pop32, ↓dn_pop64, ↓dn_aop, ↓dn_call, ↓dn_max, ↓dn_min, ↓dn_acp, ↓dn_i2l, ↓dn_args0, ↓dn_args1, og_pad, og_ent, og_rlt, og_rle, og_rgt, og_rge, og_req, og_rne, og_padd, og_psub, og_pmul, List.getD_cons_zero, List.getD_cons_succ, List.set_cons_zero, List.set_cons_succ, List.length_cons, List.length_nil, List.cons_append, List.nil_append, List.replicate, List.append_nil, Nat.reduceAdd, Nat.reduceSub, Nat.reduceEqDiff, if_true, if_false, reduceIte, Int.reduceAdd, Int.reduceSub, Int.reduceMul, Int.reduceNeg, Int.reduceLT, Int.reduceLE, Int.cast_ofNat_Int, true_or, or_true, true_and, and_true, false_and, List.mem_cons, List.not_mem_nil, or_false, false_or, ne_eq]
  have hF0 : frP h (og_up h 1000 97 0) := fun i k a b => by
    unfold og_up
    exact if_neg (fun z => b z.1 z.2)
  have a97 : og_up h 1000 97 0 1000 97 = 0 := og_up_eq
  generalize og_up h 1000 97 0 = h0 at hF0 a97
  refine ⟨qtJ h p A prog u prog.length, ?_, ?_⟩
  · simp -implicitDefEqProofs only [↓dn_den, ↓dn_loc, ↓dn_k, ↓dn_add, ↓dn_sub, ↓dn_mul, ↓dn_div, ↓dn_rem, ↓dn_bop, ↓dn_ladd, ↓dn_lsub, ↓dn_lmul, ↓dn_ldiv, ↓dn_lrem, ↓dn_land, ↓dn_l2i, ↓dn_neg, ↓dn_get, ↓dn_fix, ↓dn_ald, ↓dn_gld, ↓dn_yld, ↓dn_len, ↓dn_gln, ↓dn_cc, ↓dn_cb, ↓dn_and, ↓dn_or, ↓dn_not, ↓dn_cite, ↓dn_ec, ↓dn_ei, ↓dn_skip, ↓dn_seq, ↓dn_set, ↓dn_inc, ↓dn_putf, ↓dn_putz, ↓dn_ast, ↓dn_exp, ↓dn_if, ↓dn_ret, ↓dn_retz, ↓dn_retv, ↓dn_brk, ↓dn_cont, ↓dn_cs, ↓dn_sw, ↓dn_pop32, ↓dn_pop64, ↓dn_aop, ↓dn_call, ↓dn_max, ↓dn_min, ↓dn_acp, ↓dn_i2l, ↓dn_args0, ↓dn_args1, og_pad, og_ent, og_rlt, og_rle, og_rgt, og_rge, og_req, og_rne, og_padd, og_psub, og_pmul, List.getD_cons_zero, List.getD_cons_succ, List.set_cons_zero, List.set_cons_succ, List.length_cons, List.length_nil, List.cons_append, List.nil_append, List.replicate, List.append_nil, Nat.reduceAdd, Nat.reduceSub, Nat.reduceEqDiff, if_true, if_false, reduceIte, Int.reduceAdd, Int.reduceSub, Int.reduceMul, Int.reduceNeg, Int.reduceLT, Int.reduceLE, Int.cast_ofNat_Int, true_or, or_true, true_and, and_true, false_and, List.mem_cons, List.not_mem_nil, or_false, false_or, ne_eq]
    refine og_loop prog.length (qtJ h p A prog u) ⟨[], [], 0, rfl, rfl, by simpa using hwt, ⟨rfl, fun j hj => absurd hj (by simp)⟩, ⟨by rw [a97]; rfl, fun j hj => absurd hj (by simp)⟩, hF0⟩ ?_
    rintro i e1 h1 hi ⟨st, ts, c3, rfl, hst, hwi, hty, hpl, hfr⟩
    simp -implicitDefEqProofs only [↓dn_den, ↓dn_loc, ↓dn_k, ↓dn_add, ↓dn_sub, ↓dn_mul, ↓dn_div, ↓dn_rem, ↓dn_bop, ↓dn_ladd, ↓dn_lsub, ↓dn_lmul, ↓dn_ldiv, ↓dn_lrem, ↓dn_land, ↓dn_l2i, ↓dn_neg, ↓dn_get, ↓dn_fix, ↓dn_ald, ↓dn_gld, ↓dn_yld, ↓dn_len, ↓dn_gln, ↓dn_cc, ↓dn_cb, ↓dn_and, ↓dn_or, ↓dn_not, ↓dn_cite, ↓dn_ec, ↓dn_ei, ↓dn_skip, ↓dn_seq, ↓dn_set, ↓dn_inc, ↓dn_putf, ↓dn_putz, ↓dn_ast, ↓dn_exp, ↓dn_if, ↓dn_ret, ↓dn_retz, ↓dn_retv, ↓dn_brk, ↓dn_cont, ↓dn_cs, ↓dn_sw, ↓dn_pop32, ↓dn_pop64, ↓dn_aop, ↓dn_call, ↓dn_max, ↓dn_min, ↓dn_acp, ↓dn_i2l, ↓dn_args0, ↓dn_args1, og_pad, og_ent, og_rlt, og_rle, og_rgt, og_rge, og_req, og_rne, og_padd, og_psub, og_pmul, List.getD_cons_zero, List.getD_cons_succ, List.set_cons_zero, List.set_cons_succ, List.length_cons, List.length_nil, List.cons_append, List.nil_append, List.replicate, List.append_nil, Nat.reduceAdd, Nat.reduceSub, Nat.reduceEqDiff, if_true, if_false, reduceIte, Int.reduceAdd, Int.reduceSub, Int.reduceMul, Int.reduceNeg, Int.reduceLT, Int.reduceLE, Int.cast_ofNat_Int, true_or, or_true, true_and, and_true, false_and, List.mem_cons, List.not_mem_nil, or_false, false_or, ne_eq, og_i32]
    rw [hfr 1000 91 (by decide) (fun _ => by decide), hc.1]
    refine ⟨fun hlt => ?_, fun hge => ?_⟩
    · have hi' : i < prog.length := by omega
      obtain ⟨ts', hws, hwt', hl60⟩ := wtR_s hi' hwi
      have hstep := tyV_step (cnt := 0) ho (by decide) hty hws
      have hln : st.length < 60 := by rw [← hty.1]; exact hl60
      rw [hfr 1070 _ (by decide) (fun z => absurd z (by decide))]
      obtain ⟨q1, q2⟩ := hc.2 i hi'
      generalize h 1070 (i : Int) = c at q1 q2 ⊢
      have hin : dc c ∈ prog := by rw [q2, List.getD_eq_getElem?_getD, List.getElem?_eq_getElem hi']; exact List.getElem_mem hi'
      rw [← q2] at hws hstep
      have hM1 : isM h1 A := isM_fr2 ho.1 hm (fun i k hi => hfr i k (by omega) (fun z => by omega)) (fun k _ _ => hfr _ _ (by decide) (fun z => absurd z (by decide)))
      have h51' : h1 1000 51 = p := by rw [hfr 1000 51 (by decide) (fun _ => by decide)]; exact h51
      have fin : ∀ (st' : List Int) (h2 : Hp) (c3 : Int), st' = sStep A p 0 st (dc c) → pileM h2 st' → frP h1 h2 → (-2147483648 ≤ (i : Int) + 1 ∧ (i : Int) + 1 ≤ 2147483647) ∧ og_nx prog.length (qtJ h p A prog u) i [1000, p, (i : Int) + 1, c3] h2 := by
        intro st' h2 c3 e1 e2 e3
        refine ⟨by omega, og_nx_mk hi' ⟨st', ts', c3, by simp, ?_, hwt', ?_, e2, frP_tr hfr e3⟩⟩
        · rw [e1, sRun_s hi', ← q2, ← hst]
        · rw [e1]; exact hstep.1
      refine ⟨by omega, by omega, ?_⟩
      refine ⟨fun g1 => ?_, fun g1 => ⟨fun g0 => ?_, fun g0 => ⟨fun g2 => ?_, fun g2 => ⟨fun g3 => ?_, fun g3 => ⟨fun g4 => ?_, fun g4 => ?_⟩⟩⟩⟩⟩
      · have hr : 1000 ≤ c ∧ c ≤ 10999 := by unfold okc at q1; omega
        refine ⟨by omega, r_qPuts hpl (by omega) (fun h2 p1 p2 => fin _ h2 _ ?_ p1 p2)⟩
        unfold sStep dc
        rw [if_pos g1, if_pos (by omega)]
      · have hr : c = 60 ∨ c = 61 := by unfold okc at q1; omega
        have hs : ¬ (0 ≤ dc c) ∧ sIsP (-1 - dc c) = false ∧ sIsS (-1 - dc c) = true ∧ (-1 - dc c = 18 ∨ -1 - dc c = 3) ∧ -1 - dc c ≠ 21 := by
          rcases hr with rfl | rfl <;> decide
        have hne : ∃ v q, st = v :: q := by
          cases st with
          | nil =>
            have : ts = [] := by have := hty.1; simpa using this
            subst this
            unfold wtS at hws
            rw [if_neg hs.1, hs.2.1, hs.2.2.1] at hws
            cases hws
          | cons v q => exact ⟨v, q, rfl⟩
        obtain ⟨v, q, rfl⟩ := hne
        have hv := hty.2 0 (by simp)
        simp only [List.getD_cons_zero] at hv
        have ht := pM_hd hpl
        have hlen : h1 1000 97 = (q.length : Int) + 1 := by rw [hpl.1]; simp
        have e1 : (q.length : Int) + 1 - 1 = (q.length : Int) := by omega
        have hq : q.length < 59 := by simp at hln; omega
        rw [hlen, e1, ht]
        have e60 : 60 + (c - 60) = c := by omega
        have body : m_Model_qOf [1000, c - 60, v, p] h1 (fun x h2 => m_Model_qClip [x] h2 (fun x h3 => 0 ≤ (q.length : Int) ∧ (q.length : Int) < 1700 ∧ (-2147483648 ≤ (i : Int) + 1 ∧ (i : Int) + 1 ≤ 2147483647) ∧ og_nx prog.length (qtJ h p A prog u) i [1000, p, (i : Int) + 1, c] (og_up h3 1072 (q.length : Int) x))) := by
          refine r_qOf (by omega) hM1 ho hv.1 (r_qClip ?_)
          rw [e60, sClip_id (sSingle_rg ho hs.2.2.2.1)]
          refine ⟨by omega, by omega, fin _ _ _ ?_ (pM_top hpl) (fun i k a b => og_up_i a)⟩
          unfold sStep
          rw [if_neg hs.1, hs.2.1, hs.2.2.1]
          rfl
        repeat (refine And.intro (by omega) ?_)
        exact body
      · have hr : 40 ≤ c ∧ c ≤ 47 := by unfold okc at q1; omega
        have e40 : 40 + (c - 40) = c := by omega
        refine ⟨by omega, r_qPartOf (cnt := 0) (by omega) hM1 ho h51' (fun e => ?_) (fun e => ?_) (r_qClip (r_qPuts hpl (by omega) (fun h2 p1 p2 => fin _ h2 _ ?_ p1 p2)))⟩
        · have : c = 44 := by omega
          rw [this] at hin
          exact absurd hin hq.1
        · have : c = 45 := by omega
          rw [this] at hin
          exact absurd hin hq.2
        · rw [e40, sClip_id (sPlain_rg ho)]
          obtain ⟨hneg, hpl⟩ := dc_part hr
          unfold sStep
          rw [if_neg hneg, if_pos hpl]
      · subst g3
        exact r_qPuts hpl (by omega) (fun h2 p1 p2 => fin _ h2 _ rfl p1 p2)
      · subst g4
        have hne : ∃ v q, st = v :: q := by
          cases st with
          | nil =>
            have : ts = [] := by have := hty.1; simpa using this
            subst this
            cases hws
          | cons v q => exact ⟨v, q, rfl⟩
        obtain ⟨v, q, rfl⟩ := hne
        have hv := hty.2 0 (by simp)
        simp only [List.getD_cons_zero] at hv
        have ht := pM_hd hpl
        have hlen : h1 1000 97 = (q.length : Int) + 1 := by rw [hpl.1]; simp
        have e1 : (q.length : Int) + 1 - 1 = (q.length : Int) := by omega
        have hq : q.length < 59 := by simp at hln; omega
        rw [hlen, e1, ht]
        have := hv.1
        simp only [og_i64]
        repeat (refine And.intro (by omega) ?_)
        exact (fin ((1 - v) :: q) _ _ rfl (pM_top hpl) (fun i k a b => og_up_i a)).2
      · have hr : 1 ≤ c ∧ c ≤ 11 := by unfold okc at q1; omega
        obtain ⟨hneg, hnp, hns, h1920⟩ := dc_join hr
        have hws' := hws
        unfold wtS at hws'
        rw [if_neg hneg, if_neg hnp, if_neg hns] at hws'
        have hl := hty.1
        match st, ts, hl, hws', hty, hpl, hst, hstep, fin, hln with
        | b :: a :: q, t1 :: t2 :: r, _, hws', hty, hpl, hst, hstep, fin, hln =>
          have hvb := hty.2 0 (by simp)
          have hva := hty.2 1 (by simp)
          simp only [List.getD_cons_zero, List.getD_cons_succ] at hvb hva
          refine r_qJoins hr hpl (by simp at hln; omega) hva.1 hvb.1 (fun h10 => ?_) (fun h2 p1 p2 => fin _ h2 _ ?_ p1 p2)
          · have := h1920 h10
            dsimp only at hws'
            rw [if_pos this] at hws'
            split at hws'
            · rename_i hb
              have hb : t1 = true ∧ t2 = true := by simpa using hb
              exact ⟨hva.2 hb.2, hvb.2 hb.1⟩
            · cases hws'
          · unfold sStep
            rw [if_neg hneg, if_neg hnp, if_neg hns]
        | [b], [t], _, hws', _, _, _, _, _, _ => cases hws'
        | [], [], _, hws', _, _, _, _, _, _ => cases hws'
    · have : i = prog.length := by omega
      subst this
      exact ⟨st, ts, c3, rfl, hst, hwi, hty, hpl, hfr⟩
  · rintro e1 h1 ⟨st, ts, c3, rfl, hst, hwi, hty, hpl, hfr⟩
    rw [List.take_length] at hst
    rw [List.drop_length] at hwi
    have h1l : st.length = 1 := by
      have : ts = [u] := Option.some.inj hwi
      rw [← hty.1, this]
      rfl
    match st, h1l with
    | [v], _ =>
      have hv : h1 1072 0 = v := pM_hd hpl
      simp -implicitDefEqProofs only [↓dn_den, ↓dn_loc, ↓dn_k, ↓dn_add, ↓dn_sub, ↓dn_mul, ↓dn_div, ↓dn_rem, ↓dn_bop, ↓dn_ladd, ↓dn_lsub, ↓dn_lmul, ↓dn_ldiv, ↓dn_lrem, ↓dn_land, ↓dn_l2i, ↓dn_neg, ↓dn_get, ↓dn_fix, ↓dn_ald, ↓dn_gld, ↓dn_yld, ↓dn_len, ↓dn_gln, ↓dn_cc, ↓dn_cb, ↓dn_and, ↓dn_or, ↓dn_not, ↓dn_cite, ↓dn_ec, ↓dn_ei, ↓dn_skip, ↓dn_seq, ↓dn_set, ↓dn_inc, ↓dn_putf, ↓dn_putz, ↓dn_ast, ↓dn_exp, ↓dn_if, ↓dn_ret, ↓dn_retz, ↓dn_retv, ↓dn_brk, ↓dn_cont, ↓dn_cs, ↓dn_sw, ↓dn_pop32, ↓dn_pop64, ↓dn_aop, ↓dn_call, ↓dn_max, ↓dn_min, ↓dn_acp, ↓dn_i2l, ↓dn_args0, ↓dn_args1, og_pad, og_ent, og_rlt, og_rle, og_rgt, og_rge, og_req, og_rne, og_padd, og_psub, og_pmul, List.getD_cons_zero, List.getD_cons_succ, List.set_cons_zero, List.set_cons_succ, List.length_cons, List.length_nil, List.cons_append, List.nil_append, List.replicate, List.append_nil, Nat.reduceAdd, Nat.reduceSub, Nat.reduceEqDiff, if_true, if_false, reduceIte, Int.reduceAdd, Int.reduceSub, Int.reduceMul, Int.reduceNeg, Int.reduceLT, Int.reduceLE, Int.cast_ofNat_Int, true_or, or_true, true_and, and_true, false_and, List.mem_cons, List.not_mem_nil, or_false, false_or, ne_eq]
      have e : sVal prog A p 0 = v := by unfold sVal; rw [← hst]; rfl
      rw [hv, ← e]
      first | exact hK h1 hfr | exact ⟨by decide, by decide, hK h1 hfr⟩
end
end
