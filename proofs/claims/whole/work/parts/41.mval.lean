-- the reference's codes, as cells of the class
def dc (c : Int) : Int := if 1000 ≤ c then c - 1000 else if c = 60 then -19 else if c = 61 then -4 else if c = 40 then -7 else if c = 41 then -6 else if c = 42 then -8 else if c = 43 then -14 else if c = 44 then -15 else if c = 45 then -16 else if c = 46 then -17 else if c = 47 then -18 else if c = 13 then 1 else if c = 12 then -22 else if c = 1 then -44 else if c = 2 then -46 else if c = 3 then -43 else if c = 4 then -48 else if c = 5 then -24 else if c = 6 then -25 else if c = 7 then -61 else if c = 8 then -63 else if c = 9 then -62 else if c = 10 then -21 else -20
def okc (c : Int) : Prop := (1000 ≤ c ∧ c ≤ 10999) ∨ (40 ≤ c ∧ c ≤ 47) ∨ c = 60 ∨ c = 61 ∨ (1 ≤ c ∧ c ≤ 13)
def pileM (h : Hp) (st : List Int) : Prop := h 1000 97 = st.length ∧ ∀ j : Nat, j < st.length → h 1072 (j : Int) = st.getD (st.length - 1 - j) 0
theorem pM_push {h : Hp} {st : List Int} {v : Int} (hp : pileM h st) : pileM (og_up (og_up h 1072 (st.length : Int) v) 1000 97 ((st.length : Int) + 1)) (v :: st) := by
  refine ⟨by rw [og_up_eq]; simp, ?_⟩
  intro j hj
  simp only [List.length_cons] at hj ⊢
  rw [og_up_i (by decide)]
  by_cases e : j = st.length
  · subst e
    rw [og_up_eq]
    simp
  · rw [og_up_k (by omega), hp.2 j (by omega)]
    have : st.length + 1 - 1 - j = (st.length - 1 - j) + 1 := by omega
    rw [this, List.getD_cons_succ]
theorem pM_hd {h : Hp} {st : List Int} {v : Int} (hp : pileM h (v :: st)) : h 1072 (st.length : Int) = v := by
  have := hp.2 st.length (by simp)
  simpa using this
theorem pM_tl {h h' : Hp} {st : List Int} {v : Int} (hp : pileM h (v :: st)) (h1 : h' 1000 97 = st.length) (h2 : ∀ k, h' 1072 k = h 1072 k) : pileM h' st := by
  refine ⟨h1, ?_⟩
  intro j hj
  have := hp.2 j (by simp; omega)
  simp only [List.length_cons] at this
  have e : st.length + 1 - 1 - j = (st.length - 1 - j) + 1 := by omega
  rw [e, List.getD_cons_succ] at this
  rw [h2]
  exact this
theorem pM_top {h : Hp} {st : List Int} {v w : Int} (hp : pileM h (v :: st)) : pileM (og_up h 1072 (st.length : Int) w) (w :: st) := by
  refine ⟨by rw [og_up_i (by decide), hp.1]; simp, ?_⟩
  intro j hj
  simp only [List.length_cons] at hj ⊢
  by_cases e : j = st.length
  · subst e
    rw [og_up_eq]
    simp
  · rw [og_up_k (by omega), hp.2 j (by simp; omega)]
    simp only [List.length_cons]
    have : st.length + 1 - 1 - j = (st.length - 1 - j) + 1 := by omega
    rw [this, List.getD_cons_succ, List.getD_cons_succ]
/-- only pile and its height differ -/
def frP (h h' : Hp) : Prop := ∀ i k, i ≠ 1072 → (i = 1000 → k ≠ 97) → h' i k = h i k
theorem frP_rf {h : Hp} : frP h h := fun _ _ _ _ => rfl
theorem frP_tr {h h1 h2 : Hp} (a : frP h h1) (b : frP h1 h2) : frP h h2 := fun i k p q => (b i k p q).trans (a i k p q)
theorem frP_E {h h' : Hp} (a : frP h h') : frE h h' := fun i k p q => a i k p (fun z => (q z).2.2)
theorem sFloor_bd {a b : Int} (ha : -1000000 ≤ a ∧ a ≤ 1000000) : -1000000 ≤ sFloor a b ∧ sFloor a b ≤ 1000000 := by
  have hd := og_tdiv_bd (b := b) ha.1 ha.2
  unfold sFloor
  split
  · decide
  · split
    · rename_i b0 hc
      have h : (a.tdiv b).natAbs = a.natAbs / b.natAbs := Int.natAbs_tdiv a b
      by_cases hb1 : b.natAbs = 1
      · exfalso
        have hb2 : b = 1 ∨ b = -1 := by omega
        rcases hb2 with rfl | rfl <;> simp at hc
      · have : a.natAbs / b.natAbs ≤ a.natAbs / 2 := Nat.div_le_div_left (by omega) (by decide)
        omega
    · exact hd
section
variable {h : Hp} {A : Yd} {K : Int → Hp → Prop}
theorem r_qPuts {v : Int} {st : List Int} (hp : pileM h st) (hl : st.length < 1000) (hK : ∀ h', pileM h' (v :: st) → frP h h' → K 0 h') : m_Model_qPuts [1000, v] h K := by
  unfold m_Model_qPuts
  simp only [og_den, og_pad, og_ent, og_loc, og_k, og_add, og_sub, og_mul, og_div, og_rem, og_bop, og_ladd, og_lsub, og_lmul, og_ldiv, og_lrem, og_land, og_i2l, og_l2i, og_neg, og_get, og_fix, og_ald, og_gld, og_yld, og_len, og_gln, og_cc, og_cb, og_and, og_or, og_not, og_cite, og_ec, og_ei, og_rlt, og_rle, og_rgt, og_rge, og_req, og_rne, og_skip, og_seq, og_set, og_inc, og_putf, og_putz, og_ast, og_exp, og_if, og_ret, og_retz, og_retv, og_brk, og_cont, og_cs, og_sw, og_pop32, og_pop64, og_aop, og_padd, og_psub, og_pmul, og_call, og_args, og_max, og_min, og_acp, List.getD_cons_zero, List.getD_cons_succ, List.set_cons_zero, List.set_cons_succ, List.length_cons, List.length_nil, List.cons_append, List.nil_append, List.replicate, List.append_nil, Nat.reduceAdd, Nat.reduceSub, Nat.reduceEqDiff, if_true, if_false, reduceIte, Int.reduceAdd, Int.reduceSub, Int.reduceMul, Int.reduceNeg, Int.reduceLT, Int.reduceLE, Int.cast_ofNat_Int, true_or, or_true, true_and, and_true, false_and, List.mem_cons, List.not_mem_nil, or_false, false_or, ne_eq, og_i32]
  rw [hp.1]
  have e : og_up h 1072 (st.length : Int) v 1000 97 = st.length := by rw [og_up_i (by decide)]; exact hp.1
  rw [e]
  refine ⟨by omega, by omega, by omega, hK _ (pM_push hp) (fun i k a b => ?_)⟩
  simp only [og_up]
  grind
theorem r_qClip {v : Int} (hK : K (sClip v) h) : m_Model_qClip [v] h K := by
  unfold m_Model_qClip
  simp only [og_den, og_pad, og_ent, og_loc, og_k, og_add, og_sub, og_mul, og_div, og_rem, og_bop, og_ladd, og_lsub, og_lmul, og_ldiv, og_lrem, og_land, og_i2l, og_l2i, og_neg, og_get, og_fix, og_ald, og_gld, og_yld, og_len, og_gln, og_cc, og_cb, og_and, og_or, og_not, og_cite, og_ec, og_ei, og_rlt, og_rle, og_rgt, og_rge, og_req, og_rne, og_skip, og_seq, og_set, og_inc, og_putf, og_putz, og_ast, og_exp, og_if, og_ret, og_retz, og_retv, og_brk, og_cont, og_cs, og_sw, og_pop32, og_pop64, og_aop, og_padd, og_psub, og_pmul, og_call, og_args, og_max, og_min, og_acp, List.getD_cons_zero, List.getD_cons_succ, List.set_cons_zero, List.set_cons_succ, List.length_cons, List.length_nil, List.cons_append, List.nil_append, List.replicate, List.append_nil, Nat.reduceAdd, Nat.reduceSub, Nat.reduceEqDiff, if_true, if_false, reduceIte, Int.reduceAdd, Int.reduceSub, Int.reduceMul, Int.reduceNeg, Int.reduceLT, Int.reduceLE, Int.cast_ofNat_Int, true_or, or_true, true_and, and_true, false_and, List.mem_cons, List.not_mem_nil, or_false, false_or, ne_eq]
  unfold sClip at hK
  grind
theorem r_qFloor {a b : Int} (ha : -1000000 ≤ a ∧ a ≤ 1000000) (hK : K (sFloor a b) h) : m_Model_qFloor [a, b] h K := by
  have hd := og_tdiv_bd (b := b) ha.1 ha.2
  have hm := Int.tmod_def a b
  have hcm := Int.mul_comm b (a.tdiv b)
  unfold m_Model_qFloor
  simp only [og_den, og_pad, og_ent, og_loc, og_k, og_add, og_sub, og_mul, og_div, og_rem, og_bop, og_ladd, og_lsub, og_lmul, og_ldiv, og_lrem, og_land, og_i2l, og_l2i, og_neg, og_get, og_fix, og_ald, og_gld, og_yld, og_len, og_gln, og_cc, og_cb, og_and, og_or, og_not, og_cite, og_ec, og_ei, og_rlt, og_rle, og_rgt, og_rge, og_req, og_rne, og_skip, og_seq, og_set, og_inc, og_putf, og_putz, og_ast, og_exp, og_if, og_ret, og_retz, og_retv, og_brk, og_cont, og_cs, og_sw, og_pop32, og_pop64, og_aop, og_padd, og_psub, og_pmul, og_call, og_args, og_max, og_min, og_acp, List.getD_cons_zero, List.getD_cons_succ, List.set_cons_zero, List.set_cons_succ, List.length_cons, List.length_nil, List.cons_append, List.nil_append, List.replicate, List.append_nil, Nat.reduceAdd, Nat.reduceSub, Nat.reduceEqDiff, if_true, if_false, reduceIte, Int.reduceAdd, Int.reduceSub, Int.reduceMul, Int.reduceNeg, Int.reduceLT, Int.reduceLE, Int.cast_ofNat_Int, true_or, or_true, true_and, and_true, false_and, List.mem_cons, List.not_mem_nil, or_false, false_or, ne_eq, og_i32, og_i64]
  unfold sFloor at hK
  refine ⟨fun e => ?_, fun e => ?_⟩
  · rw [if_pos e] at hK; exact hK
  · rw [if_neg e] at hK
    refine ⟨e, by omega, e, ?_⟩
    grind
theorem r_qJoins {c a b : Int} {q : List Int} (hc : 1 ≤ c ∧ c ≤ 11) (hp : pileM h (b :: a :: q)) (hl : q.length < 900) (ha : -1000000 ≤ a ∧ a ≤ 1000000) (hb : -1000000 ≤ b ∧ b ≤ 1000000) (hz : 10 ≤ c → (0 ≤ a ∧ a ≤ 1) ∧ 0 ≤ b ∧ b ≤ 1)
    (hK : ∀ h', pileM h' (sClip (sJoint (-1 - dc c) a b) :: q) → frP h h' → K 0 h') : m_Model_qJoins [1000, c] h K := by
  have hb1 : h 1072 ((q.length : Int) + 1) = b := by
    have := pM_hd hp
    simpa using this
  have ht := pM_tl (h' := og_up h 1000 97 (((a :: q).length : Nat) : Int)) hp (by rw [og_up_eq]) (fun k => by rw [og_up_i (by decide)])
  have ha1 : h 1072 (q.length : Int) = a := by
    have := pM_hd ht
    rw [og_up_i (by decide)] at this
    exact this
  have hq := pM_tl (h' := og_up h 1000 97 (q.length : Int)) ht (by rw [og_up_eq]) (fun k => by rw [og_up_i (by decide), og_up_i (by decide)])
  have hn : h 1000 97 = (q.length : Int) + 2 := by rw [hp.1]; simp; omega
  have hm : -1000000000000 ≤ a * b ∧ a * b ≤ 1000000000000 := by
    have h1 : (a * b).natAbs ≤ 1000000 * 1000000 := by rw [Int.natAbs_mul]; exact Nat.mul_le_mul (by omega) (by omega)
    omega
  have e1 : (q.length : Int) + 2 - 1 = (q.length : Int) + 1 := by omega
  have e2 : (q.length : Int) + 2 - 2 = (q.length : Int) := by omega
  have fr : ∀ h', frP (og_up h 1000 97 (q.length : Int)) h' → frP h h' := fun h' hf i k x y => by
    rw [hf i k x y]
    simp only [og_up]
    grind
  have put : ∀ v, v = sClip (sJoint (-1 - dc c) a b) → ∀ K' : Int → Hp → Prop, (∀ h', K 0 h' → K' 0 h') → m_Model_qPuts [1000, v] (og_up h 1000 97 (q.length : Int)) K' := by
    intro v hv K' hKK
    refine r_qPuts hq (by omega) (fun h' p1 p2 => hKK h' (hK h' ?_ (fr h' p2)))
    rw [← hv]
    exact p1
  unfold m_Model_qJoins
  simp only [og_den, og_pad, og_ent, og_loc, og_k, og_add, og_sub, og_mul, og_div, og_rem, og_bop, og_ladd, og_lsub, og_lmul, og_ldiv, og_lrem, og_land, og_i2l, og_l2i, og_neg, og_get, og_fix, og_ald, og_gld, og_yld, og_len, og_gln, og_cc, og_cb, og_and, og_or, og_not, og_cite, og_ec, og_ei, og_rlt, og_rle, og_rgt, og_rge, og_req, og_rne, og_skip, og_seq, og_set, og_inc, og_putf, og_putz, og_ast, og_exp, og_if, og_ret, og_retz, og_retv, og_brk, og_cont, og_cs, og_sw, og_pop32, og_pop64, og_aop, og_padd, og_psub, og_pmul, og_call, og_args, og_max, og_min, og_acp, List.getD_cons_zero, List.getD_cons_succ, List.set_cons_zero, List.set_cons_succ, List.length_cons, List.length_nil, List.cons_append, List.nil_append, List.replicate, List.append_nil, Nat.reduceAdd, Nat.reduceSub, Nat.reduceEqDiff, if_true, if_false, reduceIte, Int.reduceAdd, Int.reduceSub, Int.reduceMul, Int.reduceNeg, Int.reduceLT, Int.reduceLE, Int.cast_ofNat_Int, true_or, or_true, true_and, and_true, false_and, List.mem_cons, List.not_mem_nil, or_false, false_or, ne_eq, og_i32, og_i64]
  rw [hn, e1, e2, ha1, hb1]
  repeat (refine And.intro (by omega) ?_)
  have hf := sFloor_bd (a := a) (b := b) ha
  refine ⟨fun e => ⟨by omega, r_qClip (put _ (by subst e; rfl) _ (fun _ k => k))⟩, fun n1 => ⟨fun e => ⟨by omega, r_qClip (put _ (by subst e; rfl) _ (fun _ k => k))⟩, fun n2 => ⟨fun e => ⟨by omega, r_qClip (put _ (by subst e; rfl) _ (fun _ k => k))⟩, fun n3 => ⟨fun e => r_qFloor ha (put _ ?_ _ (fun _ k => k)), fun n4 => ?_⟩⟩⟩⟩
  · subst e
    show sFloor a b = sClip (sFloor a b)
    unfold sClip
    omega
  refine ⟨fun e => ⟨fun x => put _ ?_ _ (fun _ k => k), fun x => put _ ?_ _ (fun _ k => k)⟩, fun n5 => ⟨fun e => ⟨fun x => put _ ?_ _ (fun _ k => k), fun x => put _ ?_ _ (fun _ k => k)⟩, fun n6 => ⟨fun e => ⟨fun x => put _ ?_ _ (fun _ k => k), fun x => put _ ?_ _ (fun _ k => k)⟩, fun n7 => ⟨fun e => ⟨fun x => put _ ?_ _ (fun _ k => k), fun x => put _ ?_ _ (fun _ k => k)⟩, fun n8 => ⟨fun e => ⟨fun x => put _ ?_ _ (fun _ k => k), fun x => put _ ?_ _ (fun _ k => k)⟩, fun n9 => ⟨fun e => ⟨by omega, put _ ?_ _ (fun _ k => k)⟩, fun n10 => ⟨by omega, fun x => put _ ?_ _ (fun _ k => k), fun x => put _ ?_ _ (fun _ k => k)⟩⟩⟩⟩⟩⟩⟩
  · subst e; show a = sClip (min a b); unfold sClip; omega
  · subst e; show b = sClip (min a b); unfold sClip; omega
  · subst e; show a = sClip (max a b); unfold sClip; omega
  · subst e; show b = sClip (max a b); unfold sClip; omega
  · subst e; show (1 : Int) = sClip (if a < b then 1 else 0); rw [if_pos x]; rfl
  · subst e; show (0 : Int) = sClip (if a < b then 1 else 0); rw [if_neg x]; rfl
  · subst e; show (1 : Int) = sClip (if b < a then 1 else 0); rw [if_pos x]; rfl
  · subst e; show (0 : Int) = sClip (if b < a then 1 else 0); rw [if_neg x]; rfl
  · subst e; show (1 : Int) = sClip (if a = b then 1 else 0); rw [if_pos x]; rfl
  · subst e; show (0 : Int) = sClip (if a = b then 1 else 0); rw [if_neg x]; rfl
  · subst e
    have hz := hz (by decide)
    show a * b = sClip (min a b)
    have : (a = 0 ∨ a = 1) ∧ (b = 0 ∨ b = 1) := by omega
    rcases this with ⟨rfl | rfl, rfl | rfl⟩ <;> rfl
  · have e : c = 11 := by omega
    subst e
    have hz := hz (by decide)
    show (1 : Int) = sClip (max a b)
    unfold sClip
    omega
  · have e : c = 11 := by omega
    subst e
    have hz := hz (by decide)
    show (0 : Int) = sClip (max a b)
    unfold sClip
    omega
end
