theorem sRun_ty {A : Yd} {p cnt : Int} (ho : okV A p) (hc : 0 ≤ cnt ∧ cnt ≤ 100) : ∀ (prog : List Int) (st : List Int) (ts ts' : List Bool), tyV ts st → wtR prog ts = some ts' → tyV ts' (sRun A p cnt prog st)
  | [], st, ts, ts', h, hw => by cases hw; exact h
  | c :: prog, st, ts, ts', h, hw => by
    unfold wtR at hw
    split at hw
    · cases hq : wtS ts c with
      | none => rw [hq] at hw; cases hw
      | some t2 =>
        rw [hq] at hw
        exact sRun_ty ho hc prog _ t2 ts' (tyV_step ho hc h hq).1 hw
    · cases hw
theorem sVal_ty {A : Yd} {p cnt : Int} {prog : List Int} {u : Bool} (ho : okV A p) (hc : 0 ≤ cnt ∧ cnt ≤ 100) (hw : wtR prog [] = some [u]) : (-1000000 ≤ sVal prog A p cnt ∧ sVal prog A p cnt ≤ 1000000) ∧ (u = true → 0 ≤ sVal prog A p cnt ∧ sVal prog A p cnt ≤ 1) := by
  have h := sRun_ty ho hc prog [] [] [u] ⟨rfl, fun j hj => absurd hj (by simp)⟩ hw
  unfold sVal
  match hq : sRun A p cnt prog [], h with
  | [v], h => simpa using h.2 0 (by simp)
  | [], h => have := h.1; simp at this
  | _ :: _ :: _, h => have := h.1; simp at this
def dflt (w : Int) : List Int := if w = 0 then [-7, 10, -48] else if w = 1 then [-8, 8, -63] else if w = 2 then [-7] else if w = 3 then [-8] else [9, -8, -46]
def isRM (h : Hp) (w : Int) (prog : List Int) : Prop := (h 1034 (5 + w) = -1 ∧ prog = dflt w) ∨ isRT h w prog
/-- the rules, and that only comes asks how many ask, only heart how many were taken -/
def hasM (h : Hp) (P : Pr) : Prop := ∀ w, 0 ≤ w → w ≤ 4 → isRM h w (P (8 + w))
def okQ (P : Pr) : Prop := okP P ∧ ∀ r, 8 ≤ r → r ≤ 12 → (r ≠ 9 → -15 ∉ P r) ∧ (r ≠ 11 → -16 ∉ P r) ∧ -18 ∉ P r
theorem hasM_fr {h h' : Hp} {P : Pr} (hR : hasM h P) (hf : ∀ i k, (i = 1034 ∨ i = 1035 ∨ i = 1036) → h' i k = h i k) : hasM h' P := by
  intro w w0 w1
  rcases hR w w0 w1 with ⟨a, b⟩ | ⟨a, b, c, d⟩
  · exact Or.inl ⟨by rw [hf _ _ (by decide)]; exact a, b⟩
  · refine Or.inr ⟨?_, ?_, ?_, fun j hj => ?_⟩
    · rw [hf _ _ (by decide)]; exact a
    · rw [hf _ _ (by decide), hf _ _ (by decide)]; exact b
    · rw [hf _ _ (by decide)]; exact c
    · rw [hf _ _ (by decide), hf _ _ (by decide)]; exact d j hj
theorem hasM_E {h h' : Hp} {P : Pr} (hR : hasM h P) (hf : frE h h') : hasM h' P := hasM_fr hR (fun i k hi => hf i k (by omega) (fun z => by omega))
theorem sVal_d0 {A : Yd} {p c : Int} (ho : okV A p) : sVal (dflt 0) A p c = (A 6 p).tdiv 10 := by
  have o8 := ho.1.2.2 p ho.2.1 ho.2.2
  have e : sVal (dflt 0) A p c = sClip (sFloor (A 6 p) 10) := rfl
  rw [e]
  have hb := og_tdiv_bd (a := A 6 p) (b := 10) (by omega) (by omega)
  have : sFloor (A 6 p) 10 = (A 6 p).tdiv 10 := by
    unfold sFloor
    rw [if_neg (by decide), if_neg (fun z => by omega)]
  rw [this]
  unfold sClip
  omega
theorem sVal_d1 {A : Yd} {p c : Int} : sVal (dflt 1) A p c = if 8 < A 7 p then 1 else 0 := by
  have e : sVal (dflt 1) A p c = sClip (if 8 < A 7 p then 1 else 0) := rfl
  rw [e]
  split <;> rfl
theorem sVal_d4 {A : Yd} {p c : Int} (ho : okV A p) : sVal (dflt 4) A p c = 9 - A 7 p := by
  have o8 := ho.1.2.2 p ho.2.1 ho.2.2
  have e : sVal (dflt 4) A p c = sClip (9 - A 7 p) := rfl
  rw [e]
  unfold sClip
  omega
section
variable {h : Hp} {A : Yd} {P : Pr} {K : Int → Hp → Prop}
theorem r_isTold {w : Int} (hw : 0 ≤ w ∧ w ≤ 4) (hK : K (if h 1034 (5 + w) = -1 then 0 else 1) h) : m_Model_isTold [1000, w] h K := by
  unfold m_Model_isTold
  simp only [og_den, og_pad, og_ent, og_loc, og_k, og_add, og_sub, og_mul, og_div, og_rem, og_bop, og_ladd, og_lsub, og_lmul, og_ldiv, og_lrem, og_land, og_i2l, og_l2i, og_neg, og_get, og_fix, og_ald, og_gld, og_yld, og_len, og_gln, og_cc, og_cb, og_and, og_or, og_not, og_cite, og_ec, og_ei, og_rlt, og_rle, og_rgt, og_rge, og_req, og_rne, og_skip, og_seq, og_set, og_inc, og_putf, og_putz, og_ast, og_exp, og_if, og_ret, og_retz, og_retv, og_brk, og_cont, og_cs, og_sw, og_pop32, og_pop64, og_aop, og_padd, og_psub, og_pmul, og_call, og_args, og_max, og_min, og_acp, List.getD_cons_zero, List.getD_cons_succ, List.set_cons_zero, List.set_cons_succ, List.length_cons, List.length_nil, List.cons_append, List.nil_append, List.replicate, List.append_nil, Nat.reduceAdd, Nat.reduceSub, Nat.reduceEqDiff, if_true, if_false, reduceIte, Int.reduceAdd, Int.reduceSub, Int.reduceMul, Int.reduceNeg, Int.reduceLT, Int.reduceLE, Int.cast_ofNat_Int, true_or, or_true, true_and, and_true, false_and, List.mem_cons, List.not_mem_nil, or_false, false_or, ne_eq, og_i32]
  grind
theorem told {w : Int} {prog : List Int} (hR : isRM h w prog) (hx : ¬ (if h 1034 (5 + w) = -1 then (0 : Int) else 1) = 0) : isRT h w prog := by
  rcases hR with ⟨a, b⟩ | a
  · rw [if_pos a] at hx; exact absurd rfl hx
  · exact a
theorem untold {w : Int} {prog : List Int} (hR : isRM h w prog) (hx : (if h 1034 (5 + w) = -1 then (0 : Int) else 1) = 0) : prog = dflt w := by
  rcases hR with ⟨a, b⟩ | a
  · exact b
  · have := a.1
    rw [if_neg (by omega)] at hx
    cases hx
theorem r_diesOf {p : Int} (hR : hasM h P) (hP : okQ P) (hm : isM h A) (ho : okV A p) (hK : ∀ h', frE h h' → K (sCut (sVal (P 8) A p 0) 100) h') : m_Model_diesOf [1000, p] h K := by
  have o8 := ho.1.2.2 p ho.2.1 ho.2.2
  have h0 := hR 0 (by decide) (by decide)
  obtain ⟨u, hu, -⟩ := hP.1 8 (by decide) (by decide)
  have hq := hP.2 8 (by decide) (by decide)
  have hty := sVal_ty (cnt := 0) ho (by decide) hu
  unfold m_Model_diesOf
  simp only [og_den, og_pad, og_ent, og_loc, og_k, og_add, og_sub, og_mul, og_div, og_rem, og_bop, og_ladd, og_lsub, og_lmul, og_ldiv, og_lrem, og_land, og_i2l, og_l2i, og_neg, og_get, og_fix, og_ald, og_gld, og_yld, og_len, og_gln, og_cc, og_cb, og_and, og_or, og_not, og_cite, og_ec, og_ei, og_rlt, og_rle, og_rgt, og_rge, og_req, og_rne, og_skip, og_seq, og_set, og_inc, og_putf, og_putz, og_ast, og_exp, og_if, og_ret, og_retz, og_retv, og_brk, og_cont, og_cs, og_sw, og_pop32, og_pop64, og_aop, og_padd, og_psub, og_pmul, og_call, og_args, og_max, og_min, og_acp, List.getD_cons_zero, List.getD_cons_succ, List.set_cons_zero, List.set_cons_succ, List.length_cons, List.length_nil, List.cons_append, List.nil_append, List.replicate, List.append_nil, Nat.reduceAdd, Nat.reduceSub, Nat.reduceEqDiff, if_true, if_false, reduceIte, Int.reduceAdd, Int.reduceSub, Int.reduceMul, Int.reduceNeg, Int.reduceLT, Int.reduceLE, Int.cast_ofNat_Int, true_or, or_true, true_and, and_true, false_and, List.mem_cons, List.not_mem_nil, or_false, false_or, ne_eq, og_i32]
  apply r_isTold (by decide)
  refine ⟨fun hx => ?_, fun hx => ?_⟩
  · refine r_codesTell (cnt := 0) (by decide) (told h0 hx) hm ho (by decide) ⟨fun z => absurd z (hq.1 (by decide)), fun z => absurd z (hq.2.1 (by decide))⟩ hu (fun h' hf => ?_)
    exact r_cut (by decide) hty.1 (hK h' hf)
  · apply r_ageOf hm ho.1 ho.2.1 ho.2.2
    have hb := og_tdiv_bd (a := A 6 p) (b := 10) (by omega) (by omega)
    refine ⟨by decide, by omega, r_cut (by decide) (by omega) ?_⟩
    have := untold h0 hx
    have e := sVal_d0 (c := 0) ho
    have hK := hK h frE_rf
    rw [show P 8 = dflt 0 from this, e] at hK
    exact hK
theorem r_harmOf {p : Int} (hR : hasM h P) (hP : okQ P) (hm : isM h A) (ho : okV A p) (hK : ∀ h', frE h h' → K (sCut (sVal (P 12) A p 0) 999) h') : m_Model_harmOf [1000, p] h K := by
  have o8 := ho.1.2.2 p ho.2.1 ho.2.2
  have h0 := hR 4 (by decide) (by decide)
  obtain ⟨u, hu, -⟩ := hP.1 12 (by decide) (by decide)
  have hq := hP.2 12 (by decide) (by decide)
  have hty := sVal_ty (cnt := 0) ho (by decide) hu
  unfold m_Model_harmOf
  simp only [og_den, og_pad, og_ent, og_loc, og_k, og_add, og_sub, og_mul, og_div, og_rem, og_bop, og_ladd, og_lsub, og_lmul, og_ldiv, og_lrem, og_land, og_i2l, og_l2i, og_neg, og_get, og_fix, og_ald, og_gld, og_yld, og_len, og_gln, og_cc, og_cb, og_and, og_or, og_not, og_cite, og_ec, og_ei, og_rlt, og_rle, og_rgt, og_rge, og_req, og_rne, og_skip, og_seq, og_set, og_inc, og_putf, og_putz, og_ast, og_exp, og_if, og_ret, og_retz, og_retv, og_brk, og_cont, og_cs, og_sw, og_pop32, og_pop64, og_aop, og_padd, og_psub, og_pmul, og_call, og_args, og_max, og_min, og_acp, List.getD_cons_zero, List.getD_cons_succ, List.set_cons_zero, List.set_cons_succ, List.length_cons, List.length_nil, List.cons_append, List.nil_append, List.replicate, List.append_nil, Nat.reduceAdd, Nat.reduceSub, Nat.reduceEqDiff, if_true, if_false, reduceIte, Int.reduceAdd, Int.reduceSub, Int.reduceMul, Int.reduceNeg, Int.reduceLT, Int.reduceLE, Int.cast_ofNat_Int, true_or, or_true, true_and, and_true, false_and, List.mem_cons, List.not_mem_nil, or_false, false_or, ne_eq, og_i32, og_i64]
  apply r_isTold (by decide)
  refine ⟨fun hx => ?_, fun hx => ?_⟩
  · refine r_codesTell (cnt := 0) (by decide) (told h0 hx) hm ho (by decide) ⟨fun z => absurd z (hq.1 (by decide)), fun z => absurd z (hq.2.1 (by decide))⟩ hu (fun h' hf => ?_)
    exact r_cut (by decide) hty.1 (hK h' hf)
  · apply r_willOf hm ho.1 ho.2.1 ho.2.2
    refine ⟨by omega, r_cut (by decide) (by omega) ?_⟩
    have := untold h0 hx
    have e := sVal_d4 (c := 0) ho
    have hK := hK h frE_rf
    rw [show P 12 = dflt 4 from this, e] at hK
    exact hK
theorem r_takesOf {p : Int} (hR : hasM h P) (hP : okQ P) (hm : isM h A) (ho : okV A p) (hK : ∀ h', frE h h' → K (sVal (P 10) A p 0) h') : m_Model_takesOf [1000, p] h K := by
  have h0 := hR 2 (by decide) (by decide)
  obtain ⟨u, hu, -⟩ := hP.1 10 (by decide) (by decide)
  have hq := hP.2 10 (by decide) (by decide)
  unfold m_Model_takesOf
  simp only [og_den, og_pad, og_ent, og_loc, og_k, og_add, og_sub, og_mul, og_div, og_rem, og_bop, og_ladd, og_lsub, og_lmul, og_ldiv, og_lrem, og_land, og_i2l, og_l2i, og_neg, og_get, og_fix, og_ald, og_gld, og_yld, og_len, og_gln, og_cc, og_cb, og_and, og_or, og_not, og_cite, og_ec, og_ei, og_rlt, og_rle, og_rgt, og_rge, og_req, og_rne, og_skip, og_seq, og_set, og_inc, og_putf, og_putz, og_ast, og_exp, og_if, og_ret, og_retz, og_retv, og_brk, og_cont, og_cs, og_sw, og_pop32, og_pop64, og_aop, og_padd, og_psub, og_pmul, og_call, og_args, og_max, og_min, og_acp, List.getD_cons_zero, List.getD_cons_succ, List.set_cons_zero, List.set_cons_succ, List.length_cons, List.length_nil, List.cons_append, List.nil_append, List.replicate, List.append_nil, Nat.reduceAdd, Nat.reduceSub, Nat.reduceEqDiff, if_true, if_false, reduceIte, Int.reduceAdd, Int.reduceSub, Int.reduceMul, Int.reduceNeg, Int.reduceLT, Int.reduceLE, Int.cast_ofNat_Int, true_or, or_true, true_and, and_true, false_and, List.mem_cons, List.not_mem_nil, or_false, false_or, ne_eq, og_i32]
  apply r_isTold (by decide)
  refine ⟨fun hx => ?_, fun hx => ?_⟩
  · exact r_codesTell (cnt := 0) (by decide) (told h0 hx) hm ho (by decide) ⟨fun z => absurd z (hq.1 (by decide)), fun z => absurd z (hq.2.1 (by decide))⟩ hu hK
  · apply r_ageOf hm ho.1 ho.2.1 ho.2.2
    have := untold h0 hx
    have hK := hK h frE_rf
    rw [show P 10 = dflt 2 from this] at hK
    exact hK
theorem r_doesCome {p : Int} (hR : hasM h P) (hP : okQ P) (hm : isM h A) (ho : okV A p) (hK : ∀ h', frE h h' → K (if sVal (P 9) A p (sAsked A) ≠ 0 then 1 else 0) h') : m_Model_doesCome [1000, p] h K := by
  have h6 := ho.1.1
  have h0 := hR 1 (by decide) (by decide)
  obtain ⟨u, hu, hut⟩ := hP.1 9 (by decide) (by decide)
  have hq := hP.2 9 (by decide) (by decide)
  have hcb := sCnt_le (sAsk A) (sNg A)
  have hn : sNg A = (A 0 0).toNat := rfl
  have hca : 0 ≤ sAsked A ∧ sAsked A ≤ 100 := by unfold sAsked; omega
  have hty := (sVal_ty (cnt := sAsked A) ho hca hu).2 (hut rfl)
  unfold m_Model_doesCome
  simp only [og_den, og_pad, og_ent, og_loc, og_k, og_add, og_sub, og_mul, og_div, og_rem, og_bop, og_ladd, og_lsub, og_lmul, og_ldiv, og_lrem, og_land, og_i2l, og_l2i, og_neg, og_get, og_fix, og_ald, og_gld, og_yld, og_len, og_gln, og_cc, og_cb, og_and, og_or, og_not, og_cite, og_ec, og_ei, og_rlt, og_rle, og_rgt, og_rge, og_req, og_rne, og_skip, og_seq, og_set, og_inc, og_putf, og_putz, og_ast, og_exp, og_if, og_ret, og_retz, og_retv, og_brk, og_cont, og_cs, og_sw, og_pop32, og_pop64, og_aop, og_padd, og_psub, og_pmul, og_call, og_args, og_max, og_min, og_acp, List.getD_cons_zero, List.getD_cons_succ, List.set_cons_zero, List.set_cons_succ, List.length_cons, List.length_nil, List.cons_append, List.nil_append, List.replicate, List.append_nil, Nat.reduceAdd, Nat.reduceSub, Nat.reduceEqDiff, if_true, if_false, reduceIte, Int.reduceAdd, Int.reduceSub, Int.reduceMul, Int.reduceNeg, Int.reduceLT, Int.reduceLE, Int.cast_ofNat_Int, true_or, or_true, true_and, and_true, false_and, List.mem_cons, List.not_mem_nil, or_false, false_or, ne_eq, og_i32]
  apply r_isTold (by decide)
  refine ⟨fun hx => ?_, fun hx => ?_⟩
  · refine r_codesTell (cnt := sAsked A) (by decide) (told h0 hx) hm ho hca ⟨fun _ => rfl, fun z => absurd z (hq.2.1 (by decide))⟩ hu (fun h' hf => ?_)
    have hK := hK h' hf
    grind
  · apply r_willOf hm ho.1 ho.2.1 ho.2.2
    have := untold h0 hx
    have hK := hK h frE_rf
    rw [show P 9 = dflt 1 from this, sVal_d1] at hK
    grind
end
