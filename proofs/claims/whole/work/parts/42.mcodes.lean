def okr (c : Int) : Prop := (1000 ≤ c ∧ c ≤ 10999) ∨ (40 ≤ c ∧ c ≤ 47) ∨ (1 ≤ c ∧ c ≤ 13)
def cntOK (h : Hp) (A : Yd) (prog : List Int) (cnt : Int) : Prop := (-15 ∈ prog → cnt = sAsked A) ∧ (-16 ∈ prog → cnt = h 1000 52)
def isRT (h : Hp) (w : Int) (prog : List Int) : Prop := 0 ≤ h 1034 (5 + w) ∧ h 1035 (5 + w) = h 1034 (5 + w) + prog.length ∧ h 1035 (5 + w) ≤ 1600 ∧ ∀ j : Nat, j < prog.length → okr (h 1036 (1600 + (h 1034 (5 + w) + j))) ∧ dc (h 1036 (1600 + (h 1034 (5 + w) + j))) = prog.getD j 0
theorem dc_part {c : Int} (h : 40 ≤ c ∧ c ≤ 47) : ¬ (0 ≤ dc c) ∧ sIsP (-1 - dc c) = true := by
  have : c = 40 ∨ c = 41 ∨ c = 42 ∨ c = 43 ∨ c = 44 ∨ c = 45 ∨ c = 46 ∨ c = 47 := by omega
  rcases this with rfl | rfl | rfl | rfl | rfl | rfl | rfl | rfl <;> decide
theorem dc_join {c : Int} (h : 1 ≤ c ∧ c ≤ 11) : ¬ (0 ≤ dc c) ∧ ¬ (sIsP (-1 - dc c) = true) ∧ ¬ (sIsS (-1 - dc c) = true) ∧ (10 ≤ c → -1 - dc c = 19 ∨ -1 - dc c = 20) := by
  have : c = 1 ∨ c = 2 ∨ c = 3 ∨ c = 4 ∨ c = 5 ∨ c = 6 ∨ c = 7 ∨ c = 8 ∨ c = 9 ∨ c = 10 ∨ c = 11 := by omega
  rcases this with rfl | rfl | rfl | rfl | rfl | rfl | rfl | rfl | rfl | rfl | rfl <;> decide
section
variable {h : Hp} {A : Yd} {K : Int → Hp → Prop}
theorem r_qPartOf {w p cnt : Int} (hw : 0 ≤ w ∧ w ≤ 7) (hm : isM h A) (ho : okV A p) (hp : h 1000 51 = p) (h4 : w = 4 → cnt = sAsked A) (h5 : w = 5 → cnt = h 1000 52) (hK : K (sPlain A p cnt (-1 - dc (40 + w))) h) : m_Model_qPartOf [1000, w, p] h K := by
  have o6 := ho.1.1
  have hQ := hm.2.2 p ho.2.1 ho.2.2
  have o8 := ho.1.2.2 p ho.2.1 ho.2.2
  have hpp := ho.2
  unfold m_Model_qPartOf
  simp only [og_den, og_pad, og_ent, og_loc, og_k, og_add, og_sub, og_mul, og_div, og_rem, og_bop, og_ladd, og_lsub, og_lmul, og_ldiv, og_lrem, og_land, og_i2l, og_l2i, og_neg, og_get, og_fix, og_ald, og_gld, og_yld, og_len, og_gln, og_cc, og_cb, og_and, og_or, og_not, og_cite, og_ec, og_ei, og_rlt, og_rle, og_rgt, og_rge, og_req, og_rne, og_skip, og_seq, og_set, og_inc, og_putf, og_putz, og_ast, og_exp, og_if, og_ret, og_retz, og_retv, og_brk, og_cont, og_cs, og_sw, og_pop32, og_pop64, og_aop, og_padd, og_psub, og_pmul, og_call, og_args, og_max, og_min, og_acp, List.getD_cons_zero, List.getD_cons_succ, List.set_cons_zero, List.set_cons_succ, List.length_cons, List.length_nil, List.cons_append, List.nil_append, List.replicate, List.append_nil, Nat.reduceAdd, Nat.reduceSub, Nat.reduceEqDiff, if_true, if_false, reduceIte, Int.reduceAdd, Int.reduceSub, Int.reduceMul, Int.reduceNeg, Int.reduceLT, Int.reduceLE, Int.cast_ofNat_Int, true_or, or_true, true_and, and_true, false_and, List.mem_cons, List.not_mem_nil, or_false, false_or, ne_eq, og_i32]
  rw [hp]
  refine ⟨fun e => ?_, fun n0 => ⟨fun e => ?_, fun n1 => ⟨fun e => ?_, fun n2 => ⟨fun e => ?_, fun n3 => ⟨fun e => ?_, fun n4 => ⟨fun e => ?_, fun n5 => ⟨fun e => ?_, fun n6 => ?_⟩⟩⟩⟩⟩⟩⟩
  · subst e; exact r_ageOf hm ho.1 hpp.1 hpp.2 hK
  · subst e; rw [hQ.1]; exact ⟨by omega, by omega, by omega, hK⟩
  · subst e; exact r_willOf hm ho.1 hpp.1 hpp.2 hK
  · subst e; rw [hm.1.2.2]; exact hK
  · have := h4 e
    subst e
    apply r_askingMany hm ho.1
    rw [this] at hK
    exact hK
  · have := h5 e
    subst e
    rw [← this]
    exact hK
  · subst e; exact hK
  · have e : w = 7 := by omega
    subst e
    apply r_isAlive hm ho.1 hpp.1 hpp.2
    have hK : K (A 8 p) h := hK
    unfold sLive
    grind
def tellJ (h : Hp) (w p cnt : Int) (A : Yd) (prog : List Int) (u : Bool) (i : Nat) (e1 : List Int) (h1 : Hp) : Prop := ∃ st ts c4, e1 = [1000, w, p, h 1034 (5 + w) + i, c4] ∧ st = sRun A p cnt (prog.take i) [] ∧ wtR (prog.drop i) ts = some [u] ∧ tyV ts st ∧ pileM h1 st ∧ frE h h1 ∧ h1 1000 51 = p
theorem r_codesTell {w p cnt : Int} {prog : List Int} {u : Bool} (hw : 0 ≤ w ∧ w ≤ 4) (hR : isRT h w prog) (hm : isM h A) (ho : okV A p) (hc : 0 ≤ cnt ∧ cnt ≤ 100) (hcn : cntOK h A prog cnt) (hwt : wtR prog [] = some [u])
    (hK : ∀ h', frE h h' → K (sVal prog A p cnt) h') : m_Model_codesTell [1000, w, p] h K := by
  obtain ⟨r0, r1, r2, r3⟩ := hR
  unfold m_Model_codesTell
  simp only [og_den, og_pad, og_ent, og_loc, og_k, og_add, og_sub, og_mul, og_div, og_rem, og_bop, og_ladd, og_lsub, og_lmul, og_ldiv, og_lrem, og_land, og_i2l, og_l2i, og_neg, og_get, og_fix, og_ald, og_gld, og_yld, og_len, og_gln, og_cc, og_cb, og_and, og_or, og_not, og_cite, og_ec, og_ei, og_rlt, og_rle, og_rgt, og_rge, og_req, og_rne, og_skip, og_seq, og_set, og_inc, og_putf, og_putz, og_ast, og_exp, og_if, og_ret, og_retz, og_retv, og_brk, og_cont, og_cs, og_sw, og_pop32, og_pop64, og_aop, og_padd, og_psub, og_pmul, og_call, og_args, og_max, og_min, og_acp, List.getD_cons_zero, List.getD_cons_succ, List.set_cons_zero, List.set_cons_succ, List.length_cons, List.length_nil, List.cons_append, List.nil_append, List.replicate, List.append_nil, Nat.reduceAdd, Nat.reduceSub, Nat.reduceEqDiff, if_true, if_false, reduceIte, Int.reduceAdd, Int.reduceSub, Int.reduceMul, Int.reduceNeg, Int.reduceLT, Int.reduceLE, Int.cast_ofNat_Int, true_or, or_true, true_and, and_true, false_and, List.mem_cons, List.not_mem_nil, or_false, false_or, ne_eq, og_i32]
  apply r_kindOf
  intro kd
  have hF0 : frE h (og_up (og_up (og_up h 1000 51 p) 1000 48 kd) 1000 97 0) := fun i k a b => by
    simp only [og_up]
    grind
  have a51 : og_up (og_up (og_up h 1000 51 p) 1000 48 kd) 1000 97 0 1000 51 = p := by
    rw [og_up_k (by decide), og_up_k (by decide), og_up_eq]
  have a97 : og_up (og_up (og_up h 1000 51 p) 1000 48 kd) 1000 97 0 1000 97 = 0 := og_up_eq
  generalize og_up (og_up (og_up h 1000 51 p) 1000 48 kd) 1000 97 0 = h0 at hF0 a51 a97 ⊢
  refine ⟨tellJ h w p cnt A prog u prog.length, ?_, ?_⟩
  · simp only [og_den, og_pad, og_ent, og_loc, og_k, og_add, og_sub, og_mul, og_div, og_rem, og_bop, og_ladd, og_lsub, og_lmul, og_ldiv, og_lrem, og_land, og_i2l, og_l2i, og_neg, og_get, og_fix, og_ald, og_gld, og_yld, og_len, og_gln, og_cc, og_cb, og_and, og_or, og_not, og_cite, og_ec, og_ei, og_rlt, og_rle, og_rgt, og_rge, og_req, og_rne, og_skip, og_seq, og_set, og_inc, og_putf, og_putz, og_ast, og_exp, og_if, og_ret, og_retz, og_retv, og_brk, og_cont, og_cs, og_sw, og_pop32, og_pop64, og_aop, og_padd, og_psub, og_pmul, og_call, og_args, og_max, og_min, og_acp, List.getD_cons_zero, List.getD_cons_succ, List.set_cons_zero, List.set_cons_succ, List.length_cons, List.length_nil, List.cons_append, List.nil_append, List.replicate, List.append_nil, Nat.reduceAdd, Nat.reduceSub, Nat.reduceEqDiff, if_true, if_false, reduceIte, Int.reduceAdd, Int.reduceSub, Int.reduceMul, Int.reduceNeg, Int.reduceLT, Int.reduceLE, Int.cast_ofNat_Int, true_or, or_true, true_and, and_true, false_and, List.mem_cons, List.not_mem_nil, or_false, false_or, ne_eq, og_i32]
    have ef : h0 1034 (5 + w) = h 1034 (5 + w) := hF0 _ _ (by decide) (fun z => absurd z (by decide))
    rw [ef]
    repeat (refine And.intro (by omega) ?_)
    refine og_loop prog.length (tellJ h w p cnt A prog u) ⟨[], [], 0, by simp, rfl, by simpa using hwt, ⟨rfl, fun j hj => absurd hj (by simp)⟩, ⟨by rw [a97]; rfl, fun j hj => absurd hj (by simp)⟩, hF0, a51⟩ ?_
    rintro i e1 h1 hi ⟨st, ts, c4, rfl, hst, hwi, hty, hpl, hfr, h51⟩
    simp only [og_den, og_pad, og_ent, og_loc, og_k, og_add, og_sub, og_mul, og_div, og_rem, og_bop, og_ladd, og_lsub, og_lmul, og_ldiv, og_lrem, og_land, og_i2l, og_l2i, og_neg, og_get, og_fix, og_ald, og_gld, og_yld, og_len, og_gln, og_cc, og_cb, og_and, og_or, og_not, og_cite, og_ec, og_ei, og_rlt, og_rle, og_rgt, og_rge, og_req, og_rne, og_skip, og_seq, og_set, og_inc, og_putf, og_putz, og_ast, og_exp, og_if, og_ret, og_retz, og_retv, og_brk, og_cont, og_cs, og_sw, og_pop32, og_pop64, og_aop, og_padd, og_psub, og_pmul, og_call, og_args, og_max, og_min, og_acp, List.getD_cons_zero, List.getD_cons_succ, List.set_cons_zero, List.set_cons_succ, List.length_cons, List.length_nil, List.cons_append, List.nil_append, List.replicate, List.append_nil, Nat.reduceAdd, Nat.reduceSub, Nat.reduceEqDiff, if_true, if_false, reduceIte, Int.reduceAdd, Int.reduceSub, Int.reduceMul, Int.reduceNeg, Int.reduceLT, Int.reduceLE, Int.cast_ofNat_Int, true_or, or_true, true_and, and_true, false_and, List.mem_cons, List.not_mem_nil, or_false, false_or, ne_eq, og_i32]
    have ee : h1 1035 (5 + w) = h 1035 (5 + w) := hfr _ _ (by decide) (fun z => absurd z (by decide))
    rw [ee]
    repeat (refine And.intro (by omega) ?_)
    refine ⟨fun hlt => ?_, fun hge => ?_⟩
    · have hi' : i < prog.length := by omega
      obtain ⟨ts', hws, hwt', hl60⟩ := wtR_s hi' hwi
      have hstep := tyV_step ho hc hty hws
      have hln : st.length < 60 := by rw [← hty.1]; exact hl60
      have hcell : h1 1036 (1600 + (h 1034 (5 + w) + (i : Int))) = h 1036 (1600 + (h 1034 (5 + w) + (i : Int))) := hfr _ _ (by decide) (fun z => absurd z (by decide))
      obtain ⟨q1, q2⟩ := r3 i hi'
      rw [hcell]
      generalize h 1036 (1600 + (h 1034 (5 + w) + (i : Int))) = c at q1 q2 ⊢
      have hin : dc c ∈ prog := by rw [q2, List.getD_eq_getElem?_getD, List.getElem?_eq_getElem hi']; exact List.getElem_mem hi'
      rw [← q2] at hws hstep
      have hM1 := isM_E hm hfr
      have fin : ∀ (st' : List Int) (h2 : Hp) (c4 : Int), st' = sStep A p cnt st (dc c) → pileM h2 st' → frP h1 h2 → og_nx prog.length (tellJ h w p cnt A prog u) i [1000, w, p, h 1034 (5 + w) + i + 1, c4] h2 := by
        intro st' h2 c4 e1 e2 e3
        refine og_nx_mk hi' ⟨st', ts', c4, ?_, ?_, hwt', ?_, e2, frE_tr hfr (frP_E e3), ?_⟩
        · simp; omega
        · rw [e1, sRun_s hi', ← q2, ← hst]
        · rw [e1]; exact hstep.1
        · rw [e3 1000 51 (by decide) (fun _ => by decide)]; exact h51
      repeat (refine And.intro (by omega) ?_)
      refine ⟨fun g1 => ?_, fun g1 => ⟨fun g2 => ?_, fun g2 => ⟨fun g3 => ?_, fun g3 => ⟨fun g4 => ?_, fun g4 => ?_⟩⟩⟩⟩
      · have hr : 1000 ≤ c ∧ c ≤ 10999 := by unfold okr at q1; omega
        refine ⟨by omega, r_qPuts hpl (by omega) (fun h2 p1 p2 => ⟨by omega, fin _ h2 _ ?_ p1 p2⟩)⟩
        unfold sStep dc
        rw [if_pos g1, if_pos (by omega)]
      · have hr : 40 ≤ c ∧ c ≤ 47 := by unfold okr at q1; omega
        have e40 : 40 + (c - 40) = c := by omega
        refine ⟨by omega, r_qPartOf (cnt := cnt) (by omega) hM1 ho h51 (fun e => hcn.1 ?_) (fun e => ?_) (r_qPuts hpl (by omega) (fun h2 p1 p2 => ⟨by omega, fin _ h2 _ ?_ p1 p2⟩))⟩
        · have : c = 44 := by omega
          rw [this] at hin
          exact hin
        · have : c = 45 := by omega
          rw [this] at hin
          rw [hfr 1000 52 (by decide) (fun _ => by decide)]
          exact hcn.2 hin
        · rw [e40]
          obtain ⟨hneg, hpl⟩ := dc_part hr
          unfold sStep
          rw [if_neg hneg, if_pos hpl]
      · subst g3
        refine r_qPuts hpl (by omega) (fun h2 p1 p2 => ⟨by omega, fin _ h2 _ rfl p1 p2⟩)
      · subst g4
        have hne : ∃ v q, st = v :: q := by
          cases st with
          | nil =>
            have : ts = [] := by have := hty.1; simpa using this
            subst this
            cases hws
          | cons v q => exact ⟨v, q, rfl⟩
        obtain ⟨v, q, rfl⟩ := hne
        have hv := hty.2 0 (by simp)
        simp only [List.getD_cons_zero] at hv
        have ht := pM_hd hpl
        have hlen : h1 1000 97 = (q.length : Int) + 1 := by rw [hpl.1]; simp
        have e1 : (q.length : Int) + 1 - 1 = (q.length : Int) := by omega
        have hq : q.length < 59 := by simp at hln; omega
        rw [hlen, e1, ht]
        repeat (refine And.intro (by omega) ?_)
        have := hv.1
        simp only [og_i64]
        repeat (refine And.intro (by omega) ?_)
        exact fin ((1 - v) :: q) _ _ rfl (pM_top hpl) (fun i k a b => og_up_i a)
      · have hr : 1 ≤ c ∧ c ≤ 11 := by unfold okr at q1; omega
        obtain ⟨hneg, hnp, hns, h1920⟩ := dc_join hr
        have hws' := hws
        unfold wtS at hws'
        rw [if_neg hneg, if_neg hnp, if_neg hns] at hws'
        have hl := hty.1
        match st, ts, hl, hws', hty, hpl, hst, hstep, fin, hln with
        | b :: a :: q, t1 :: t2 :: r, _, hws', hty, hpl, hst, hstep, fin, hln =>
          have hvb := hty.2 0 (by simp)
          have hva := hty.2 1 (by simp)
          simp only [List.getD_cons_zero, List.getD_cons_succ] at hvb hva
          refine r_qJoins hr hpl (by simp at hln; omega) hva.1 hvb.1 (fun h10 => ?_) (fun h2 p1 p2 => ⟨by omega, fin _ h2 _ ?_ p1 p2⟩)
          · have := h1920 h10
            dsimp only at hws'
            rw [if_pos this] at hws'
            split at hws'
            · rename_i hb
              have hb : t1 = true ∧ t2 = true := by simpa using hb
              exact ⟨hva.2 hb.2, hvb.2 hb.1⟩
            · cases hws'
          · unfold sStep
            rw [if_neg hneg, if_neg hnp, if_neg hns]
        | [b], [t], _, hws', _, _, _, _, _, _ => cases hws'
        | [], [], _, hws', _, _, _, _, _, _ => cases hws'
    · have : i = prog.length := by omega
      subst this
      exact ⟨st, ts, c4, rfl, hst, hwi, hty, hpl, hfr, h51⟩
  · rintro e1 h1 ⟨st, ts, c4, rfl, hst, hwi, hty, hpl, hfr, h51⟩
    rw [List.take_length] at hst
    rw [List.drop_length] at hwi
    have h1l : st.length = 1 := by
      have : ts = [u] := Option.some.inj hwi
      rw [← hty.1, this]
      rfl
    match st, h1l with
    | [v], _ =>
      have hv : h1 1072 0 = v := pM_hd hpl
      simp only [og_den, og_pad, og_ent, og_loc, og_k, og_add, og_sub, og_mul, og_div, og_rem, og_bop, og_ladd, og_lsub, og_lmul, og_ldiv, og_lrem, og_land, og_i2l, og_l2i, og_neg, og_get, og_fix, og_ald, og_gld, og_yld, og_len, og_gln, og_cc, og_cb, og_and, og_or, og_not, og_cite, og_ec, og_ei, og_rlt, og_rle, og_rgt, og_rge, og_req, og_rne, og_skip, og_seq, og_set, og_inc, og_putf, og_putz, og_ast, og_exp, og_if, og_ret, og_retz, og_retv, og_brk, og_cont, og_cs, og_sw, og_pop32, og_pop64, og_aop, og_padd, og_psub, og_pmul, og_call, og_args, og_max, og_min, og_acp, List.getD_cons_zero, List.getD_cons_succ, List.set_cons_zero, List.set_cons_succ, List.length_cons, List.length_nil, List.cons_append, List.nil_append, List.replicate, List.append_nil, Nat.reduceAdd, Nat.reduceSub, Nat.reduceEqDiff, if_true, if_false, reduceIte, Int.reduceAdd, Int.reduceSub, Int.reduceMul, Int.reduceNeg, Int.reduceLT, Int.reduceLE, Int.cast_ofNat_Int, true_or, or_true, true_and, and_true, false_and, List.mem_cons, List.not_mem_nil, or_false, false_or, ne_eq]
      have e : sVal prog A p cnt = v := by unfold sVal; rw [← hst]; rfl
      rw [hv, ← e]
      exact hK h1 hfr
end
