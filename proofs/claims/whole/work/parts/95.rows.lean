section
-- the reference's rows of codes and of what waits
def cdM (h : Hp) (c : List Int) : Prop := h 1000 91 = c.length ∧ ∀ j : Nat, j < c.length → okc (h 1070 (j : Int)) ∧ dc (h 1070 (j : Int)) = c.getD j 0
def stM (h : Hp) (W : List Int) : Prop := h 1000 93 = W.length ∧ ∀ j : Nat, j < W.length → h 1071 (j : Int) = W.getD (W.length - 1 - j) 0
def frZ (h h' : Hp) : Prop := ∀ i k, i ≠ 1070 → i ≠ 1071 → (i ≠ 1000 ∨ ¬ (k = 2 ∨ k = 4 ∨ k = 5 ∨ k = 6 ∨ k = 10 ∨ k = 36 ∨ k = 91 ∨ k = 93 ∨ k = 94 ∨ k = 95)) → h' i k = h i k
/-- only the rows and their heights differ -/
def frD (h h' : Hp) : Prop := ∀ i k, i ≠ 1070 → ¬ (i = 1000 ∧ (k = 91 ∨ k = 93)) → h' i k = h i k
theorem frZ_rf {h : Hp} : frZ h h := fun _ _ _ _ _ => rfl
theorem frZ_tr {h h1 h2 : Hp} (a : frZ h h1) (b : frZ h1 h2) : frZ h h2 := fun i k p q r => (b i k p q r).trans (a i k p q r)
theorem frD_rf {h : Hp} : frD h h := fun _ _ _ _ => rfl
theorem frD_tr {h h1 h2 : Hp} (a : frD h h1) (b : frD h1 h2) : frD h h2 := fun i k p q => (b i k p q).trans (a i k p q)
theorem frX_Z {h h' : Hp} (a : frX h h') : frZ h h' := fun i k _ _ r => a i k (by omega)
theorem frD_Z {h h' : Hp} (a : frD h h') : frZ h h' := fun i k p _ r => a i k p (by omega)
theorem fr2_Z {h h' : Hp} (a : ∀ i k, ¬ (i = 1000 ∧ k = 2) → h' i k = h i k) : frZ h h' := fun i k _ _ r => a i k (by omega)
theorem fr5_Z {h h' : Hp} (a : ∀ i j, ¬ (i = 1000 ∧ (j = 5 ∨ j = 6)) → h' i j = h i j) : frZ h h' := fun i k _ _ r => a i k (by omega)
theorem txM_Z {h h' : Hp} {B : Int → Int} {n : Int} (ht : txM h B n) (hf : frZ h h') : txM h' B n := txM_fr ht (fun i k hi => by
  unfold idW at hi
  exact hf i k (by omega) (by omega) (by omega))
section
variable {h h0 h' : Hp} {B : Int → Int} {n a o : Int} {c V W W0 : List Int} {K : Int → Hp → Prop}
theorem cdM_fr (hc : cdM h c) (hf : ∀ i k, (i = 1070 ∨ (i = 1000 ∧ k = 91)) → h' i k = h i k) : cdM h' c := ⟨by rw [hf _ _ (Or.inr ⟨rfl, rfl⟩)]; exact hc.1, fun j hj => by rw [hf _ _ (Or.inl rfl)]; exact hc.2 j hj⟩
theorem stM_fr (hc : stM h W) (hf : ∀ i k, (i = 1071 ∨ (i = 1000 ∧ k = 93)) → h' i k = h i k) : stM h' W := ⟨by rw [hf _ _ (Or.inr ⟨rfl, rfl⟩)]; exact hc.1, fun j hj => by rw [hf _ _ (Or.inl rfl)]; exact hc.2 j hj⟩
theorem refS_fr (hr : refS h B n a) (hf : ∀ k, (k = 2 ∨ k = 4 ∨ k = 5 ∨ k = 6) → h' 1000 k = h 1000 k) : refS h' B n a := by
  unfold refS
  rw [hf 2 (by decide), hf 4 (by decide), hf 5 (by decide), hf 6 (by decide)]
  exact hr
theorem stM_push {v : Int} (hp : stM h W) : stM (og_up (og_up h 1071 (W.length : Int) v) 1000 93 ((W.length : Int) + 1)) (v :: W) := by
  refine ⟨by rw [og_up_eq]; simp, ?_⟩
  intro j hj
  simp only [List.length_cons] at hj ⊢
  rw [og_up_i (by decide)]
  by_cases e : j = W.length
  · subst e
    rw [og_up_eq]
    simp
  · rw [og_up_k (by omega), hp.2 j (by omega)]
    have : W.length + 1 - 1 - j = (W.length - 1 - j) + 1 := by omega
    rw [this, List.getD_cons_succ]
theorem stM_hd {v : Int} (hp : stM h (v :: W)) : h 1071 (W.length : Int) = v := by
  have := hp.2 W.length (by simp)
  simpa using this
theorem stM_tl {v : Int} (hp : stM h (v :: W)) (h1 : h' 1000 93 = W.length) (h2 : ∀ k, h' 1071 k = h 1071 k) : stM h' W := by
  refine ⟨h1, ?_⟩
  intro j hj
  have := hp.2 j (by simp; omega)
  simp only [List.length_cons] at this
  have e : W.length + 1 - 1 - j = (W.length - 1 - j) + 1 := by omega
  rw [e, List.getD_cons_succ] at this
  rw [h2]
  exact this
theorem stM_top {v w : Int} (hp : stM h (v :: W)) : stM (og_up h 1071 (W.length : Int) w) (w :: W) := by
  refine ⟨by rw [og_up_i (by decide), hp.1]; simp, ?_⟩
  intro j hj
  simp only [List.length_cons] at hj ⊢
  by_cases e : j = W.length
  · subst e
    rw [og_up_eq]
    simp
  · rw [og_up_k (by omega), hp.2 j (by simp; omega)]
    simp only [List.length_cons]
    have : W.length + 1 - 1 - j = (W.length - 1 - j) + 1 := by omega
    rw [this, List.getD_cons_succ, List.getD_cons_succ]
theorem cdM_push {v : Int} (hc : cdM h c) (hv : okc v) : cdM (og_up (og_up h 1070 (c.length : Int) v) 1000 91 ((c.length : Int) + 1)) (c ++ [dc v]) := by
  refine ⟨by rw [og_up_eq]; simp, ?_⟩
  intro j hj
  rw [List.length_append] at hj
  simp only [List.length_cons, List.length_nil] at hj
  rw [og_up_i (by decide)]
  by_cases e : j = c.length
  · subst e
    rw [og_up_eq]
    refine ⟨hv, ?_⟩
    simp
  · rw [og_up_k (by omega)]
    have := hc.2 j (by omega)
    refine ⟨this.1, this.2.trans ?_⟩
    simp only [List.getD_eq_getElem?_getD]
    rw [List.getElem?_append_left (by omega)]
theorem okc_rg {v : Int} (h : okc v) : 0 ≤ v ∧ v ≤ 10999 := by unfold okc at h; omega
theorem r_qCode {v : Int} (hc : cdM h c) (hl : c.length < 1700) (hv : okc v) (hK : ∀ h', cdM h' (c ++ [dc v]) → (∀ i k, i ≠ 1070 → ¬ (i = 1000 ∧ k = 91) → h' i k = h i k) → K 0 h') : m_Model_qCode [1000, v] h K := by
  unfold m_Model_qCode
  simp -implicitDefEqProofs only [↓dn_den, ↓dn_loc, ↓dn_k, ↓dn_add, ↓dn_sub, ↓dn_mul, ↓dn_div, ↓dn_rem, ↓dn_bop, ↓dn_ladd, ↓dn_lsub, ↓dn_lmul, ↓dn_ldiv, ↓dn_lrem, ↓dn_land, ↓dn_l2i, ↓dn_neg, ↓dn_get, ↓dn_fix, ↓dn_ald, ↓dn_gld, ↓dn_yld, ↓dn_len, ↓dn_gln, ↓dn_cc, ↓dn_cb, ↓dn_and, ↓dn_or, ↓dn_not, ↓dn_cite, ↓dn_ec, ↓dn_ei, ↓dn_skip, ↓dn_seq, ↓dn_set, ↓dn_inc, ↓dn_putf, ↓dn_putz, ↓dn_ast, ↓dn_exp, ↓dn_if, ↓dn_ret, ↓dn_retz, ↓dn_retv, ↓dn_brk, ↓dn_cont, ↓dn_cs, ↓dn_sw, ↓dn_pop32, ↓dn_pop64, ↓dn_aop, ↓dn_call, ↓dn_max, ↓dn_min, ↓dn_acp, ↓dn_i2l, ↓dn_args0, ↓dn_args1, og_pad, og_ent, og_rlt, og_rle, og_rgt, og_rge, og_req, og_rne, og_padd, og_psub, og_pmul, List.getD_cons_zero, List.getD_cons_succ, List.set_cons_zero, List.set_cons_succ, List.length_cons, List.length_nil, List.cons_append, List.nil_append, List.replicate, List.append_nil, Nat.reduceAdd, Nat.reduceSub, Nat.reduceEqDiff, if_true, if_false, reduceIte, Int.reduceAdd, Int.reduceSub, Int.reduceMul, Int.reduceNeg, Int.reduceLT, Int.reduceLE, Int.cast_ofNat_Int, true_or, or_true, true_and, and_true, false_and, List.mem_cons, List.not_mem_nil, or_false, false_or, ne_eq, og_i32]
  rw [hc.1, og_up_i (by decide), hc.1]
  exact ⟨by omega, by omega, by omega, hK _ (cdM_push hc hv) (fun i k hi hk => by
    unfold og_up
    rw [if_neg hk, if_neg (fun z => hi z.1)])⟩
theorem r_qCodeF {v m : Int} (hc : 0 ≤ h 1000 91 ∧ h 1000 91 ≤ m) (hm : m < 1700) (hK : ∀ h', h' 1000 91 = h 1000 91 + 1 → (∀ i k, i ≠ 1070 → ¬ (i = 1000 ∧ k = 91) → h' i k = h i k) → K 0 h') : m_Model_qCode [1000, v] h K := by
  unfold m_Model_qCode
  simp -implicitDefEqProofs only [↓dn_den, ↓dn_loc, ↓dn_k, ↓dn_add, ↓dn_sub, ↓dn_mul, ↓dn_div, ↓dn_rem, ↓dn_bop, ↓dn_ladd, ↓dn_lsub, ↓dn_lmul, ↓dn_ldiv, ↓dn_lrem, ↓dn_land, ↓dn_l2i, ↓dn_neg, ↓dn_get, ↓dn_fix, ↓dn_ald, ↓dn_gld, ↓dn_yld, ↓dn_len, ↓dn_gln, ↓dn_cc, ↓dn_cb, ↓dn_and, ↓dn_or, ↓dn_not, ↓dn_cite, ↓dn_ec, ↓dn_ei, ↓dn_skip, ↓dn_seq, ↓dn_set, ↓dn_inc, ↓dn_putf, ↓dn_putz, ↓dn_ast, ↓dn_exp, ↓dn_if, ↓dn_ret, ↓dn_retz, ↓dn_retv, ↓dn_brk, ↓dn_cont, ↓dn_cs, ↓dn_sw, ↓dn_pop32, ↓dn_pop64, ↓dn_aop, ↓dn_call, ↓dn_max, ↓dn_min, ↓dn_acp, ↓dn_i2l, ↓dn_args0, ↓dn_args1, og_pad, og_ent, og_rlt, og_rle, og_rgt, og_rge, og_req, og_rne, og_padd, og_psub, og_pmul, List.getD_cons_zero, List.getD_cons_succ, List.set_cons_zero, List.set_cons_succ, List.length_cons, List.length_nil, List.cons_append, List.nil_append, List.replicate, List.append_nil, Nat.reduceAdd, Nat.reduceSub, Nat.reduceEqDiff, if_true, if_false, reduceIte, Int.reduceAdd, Int.reduceSub, Int.reduceMul, Int.reduceNeg, Int.reduceLT, Int.reduceLE, Int.cast_ofNat_Int, true_or, or_true, true_and, and_true, false_and, List.mem_cons, List.not_mem_nil, or_false, false_or, ne_eq, og_i32]
  rw [og_up_i (by decide)]
  exact ⟨by omega, by omega, by omega, hK _ og_up_eq (fun i k hi hk => by
    unfold og_up
    rw [if_neg hk, if_neg (fun z => hi z.1)])⟩
theorem r_qDrops {v : Int} (hs : stM h (v :: W)) (hc : cdM h c) (hl : (c.length : Int) + W.length < 1700) (hv : okc v) (hK : ∀ h', stM h' W → cdM h' (c ++ [dc v]) → frD h h' → K 0 h') : m_Model_qDrops [1000] h K := by
  have h93 : h 1000 93 = (W.length : Int) + 1 := by rw [hs.1]; simp
  unfold m_Model_qDrops
  simp -implicitDefEqProofs only [↓dn_den, ↓dn_loc, ↓dn_k, ↓dn_add, ↓dn_sub, ↓dn_mul, ↓dn_div, ↓dn_rem, ↓dn_bop, ↓dn_ladd, ↓dn_lsub, ↓dn_lmul, ↓dn_ldiv, ↓dn_lrem, ↓dn_land, ↓dn_l2i, ↓dn_neg, ↓dn_get, ↓dn_fix, ↓dn_ald, ↓dn_gld, ↓dn_yld, ↓dn_len, ↓dn_gln, ↓dn_cc, ↓dn_cb, ↓dn_and, ↓dn_or, ↓dn_not, ↓dn_cite, ↓dn_ec, ↓dn_ei, ↓dn_skip, ↓dn_seq, ↓dn_set, ↓dn_inc, ↓dn_putf, ↓dn_putz, ↓dn_ast, ↓dn_exp, ↓dn_if, ↓dn_ret, ↓dn_retz, ↓dn_retv, ↓dn_brk, ↓dn_cont, ↓dn_cs, ↓dn_sw, ↓dn_pop32, ↓dn_pop64, ↓dn_aop, ↓dn_call, ↓dn_max, ↓dn_min, ↓dn_acp, ↓dn_i2l, ↓dn_args0, ↓dn_args1, og_pad, og_ent, og_rlt, og_rle, og_rgt, og_rge, og_req, og_rne, og_padd, og_psub, og_pmul, List.getD_cons_zero, List.getD_cons_succ, List.set_cons_zero, List.set_cons_succ, List.length_cons, List.length_nil, List.cons_append, List.nil_append, List.replicate, List.append_nil, Nat.reduceAdd, Nat.reduceSub, Nat.reduceEqDiff, if_true, if_false, reduceIte, Int.reduceAdd, Int.reduceSub, Int.reduceMul, Int.reduceNeg, Int.reduceLT, Int.reduceLE, Int.cast_ofNat_Int, true_or, or_true, true_and, and_true, false_and, List.mem_cons, List.not_mem_nil, or_false, false_or, ne_eq, og_i32]
  rw [h93, og_up_eq, og_up_i (by decide)]
  have e1 : (W.length : Int) + 1 - 1 = W.length := by omega
  rw [e1, stM_hd hs]
  refine ⟨by omega, by omega, by omega, ?_⟩
  refine r_qCode (c := c) (cdM_fr hc (fun i k hi => by unfold og_up; exact if_neg (by omega))) (by omega) hv (fun h' hc' hf => hK h' ?_ hc' ?_)
  · refine stM_tl hs (by rw [hf _ _ (by decide) (by decide), og_up_eq]) (fun k => by rw [hf _ _ (by decide) (by omega), og_up_i (by decide)])
  · intro i k hi hk
    rw [hf i k hi (by omega)]
    unfold og_up
    exact if_neg (by omega)
theorem r_qOpens {v p : Int} (hs : stM h W) (hl : W.length < 1700) (h5 : h 1000 5 = 0) (h94 : h 1000 94 = o) (ho : -1600 ≤ o ∧ o ≤ 6)
    (hF : o = 6 → ∀ h', fltM h' 4 p → (∀ i j, ¬ (i = 1000 ∧ (j = 5 ∨ j = 6)) → h' i j = h i j) → K 0 h') (hT : ¬ o = 6 → ∀ h', stM h' (v :: W) → h' 1000 94 = o + 1 → (∀ i k, i ≠ 1071 → ¬ (i = 1000 ∧ (k = 93 ∨ k = 94)) → h' i k = h i k) → K 0 h') : m_Model_qOpens [1000, v, p] h K := by
  unfold m_Model_qOpens
  simp -implicitDefEqProofs only [↓dn_den, ↓dn_loc, ↓dn_k, ↓dn_add, ↓dn_sub, ↓dn_mul, ↓dn_div, ↓dn_rem, ↓dn_bop, ↓dn_ladd, ↓dn_lsub, ↓dn_lmul, ↓dn_ldiv, ↓dn_lrem, ↓dn_land, ↓dn_l2i, ↓dn_neg, ↓dn_get, ↓dn_fix, ↓dn_ald, ↓dn_gld, ↓dn_yld, ↓dn_len, ↓dn_gln, ↓dn_cc, ↓dn_cb, ↓dn_and, ↓dn_or, ↓dn_not, ↓dn_cite, ↓dn_ec, ↓dn_ei, ↓dn_skip, ↓dn_seq, ↓dn_set, ↓dn_inc, ↓dn_putf, ↓dn_putz, ↓dn_ast, ↓dn_exp, ↓dn_if, ↓dn_ret, ↓dn_retz, ↓dn_retv, ↓dn_brk, ↓dn_cont, ↓dn_cs, ↓dn_sw, ↓dn_pop32, ↓dn_pop64, ↓dn_aop, ↓dn_call, ↓dn_max, ↓dn_min, ↓dn_acp, ↓dn_i2l, ↓dn_args0, ↓dn_args1, og_pad, og_ent, og_rlt, og_rle, og_rgt, og_rge, og_req, og_rne, og_padd, og_psub, og_pmul, List.getD_cons_zero, List.getD_cons_succ, List.set_cons_zero, List.set_cons_succ, List.length_cons, List.length_nil, List.cons_append, List.nil_append, List.replicate, List.append_nil, Nat.reduceAdd, Nat.reduceSub, Nat.reduceEqDiff, if_true, if_false, reduceIte, Int.reduceAdd, Int.reduceSub, Int.reduceMul, Int.reduceNeg, Int.reduceLT, Int.reduceLE, Int.cast_ofNat_Int, true_or, or_true, true_and, and_true, false_and, List.mem_cons, List.not_mem_nil, or_false, false_or, ne_eq, og_i32]
  rw [h5, h94]
  refine ⟨fun z => absurd (by trivial) z, fun _ => ⟨fun z => r_fail h5 (by decide) (fun h' a b => hF z h' a b), fun z => ?_⟩⟩
  have e1 : og_up h 1000 94 (o + 1) 1000 93 = W.length := by rw [og_up_k (by decide)]; exact hs.1
  rw [e1]
  have e2 : og_up (og_up h 1000 94 (o + 1)) 1071 (W.length : Int) v 1000 93 = W.length := by rw [og_up_i (by decide)]; exact e1
  rw [e2]
  refine ⟨by omega, by omega, by omega, by omega, hT z _ (stM_push (stM_fr hs (fun i k hi => by unfold og_up; exact if_neg (by omega)))) (by rw [og_up_k (by decide), og_up_i (by decide), og_up_eq]) (fun i k hi hk => ?_)⟩
  unfold og_up
  rw [if_neg (by omega), if_neg (by omega), if_neg (by omega)]
theorem r_isHC {w : Int} {X Y : Hp → Prop} (hw : idW w) (ht : txM h B n) (hr : refS h B n a) (hX : wrd B n a = wnM w → ∀ h', refS h' B n a → h' 1000 2 = tS B n a → (∀ i k, ¬ (i = 1000 ∧ k = 2) → h' i k = h i k) → X h') (hY : ¬ wrd B n a = wnM w → ∀ h', refS h' B n a → h' 1000 2 = tS B n a → (∀ i k, ¬ (i = 1000 ∧ k = 2) → h' i k = h i k) → Y h') : m_Model_isHere [1000, w] h (fun v h' => (¬ v = 0 → X h') ∧ (v = 0 → Y h')) := by
  refine r_isHere hw ht hr (fun h1 hr1 v1 f1 => ?_)
  by_cases q : wrd B n a = wnM w
  · rw [if_pos q]
    exact ⟨fun _ => hX q h1 hr1 v1 f1, fun z => absurd z (by decide)⟩
  · rw [if_neg q]
    exact ⟨fun z => absurd rfl z, fun _ => hY q h1 hr1 v1 f1⟩
theorem fr2_tr {h1 h2 : Hp} (a : ∀ i k, ¬ (i = 1000 ∧ k = 2) → h1 i k = h i k) (b : ∀ i k, ¬ (i = 1000 ∧ k = 2) → h2 i k = h1 i k) : ∀ i k, ¬ (i = 1000 ∧ k = 2) → h2 i k = h i k := fun i k p => (b i k p).trans (a i k p)
/-- the reference's number of a part's word -/
def qw (w : Int) : Int := if w = 6 then 0 else if w = 5 then 1 else if w = 7 then 2 else if w = 13 then 3 else if w = 14 then 4 else if w = 15 then 5 else if w = 16 then 6 else if w = 17 then 7 else if w = 18 then 8 else if w = 3 then 9 else -1
theorem r_qWordHere (ht : txM h B n) (hr : refS h B n a) (hK : ∀ h', refS h' B n a → h' 1000 2 = tS B n a → (∀ i k, ¬ (i = 1000 ∧ k = 2) → h' i k = h i k) → K (qw (wrd B n a)) h') : m_Model_qWordHere [1000] h K := by
  unfold m_Model_qWordHere
  simp -implicitDefEqProofs only [↓dn_den, ↓dn_loc, ↓dn_k, ↓dn_add, ↓dn_sub, ↓dn_mul, ↓dn_div, ↓dn_rem, ↓dn_bop, ↓dn_ladd, ↓dn_lsub, ↓dn_lmul, ↓dn_ldiv, ↓dn_lrem, ↓dn_land, ↓dn_l2i, ↓dn_neg, ↓dn_get, ↓dn_fix, ↓dn_ald, ↓dn_gld, ↓dn_yld, ↓dn_len, ↓dn_gln, ↓dn_cc, ↓dn_cb, ↓dn_and, ↓dn_or, ↓dn_not, ↓dn_cite, ↓dn_ec, ↓dn_ei, ↓dn_skip, ↓dn_seq, ↓dn_set, ↓dn_inc, ↓dn_putf, ↓dn_putz, ↓dn_ast, ↓dn_exp, ↓dn_if, ↓dn_ret, ↓dn_retz, ↓dn_retv, ↓dn_brk, ↓dn_cont, ↓dn_cs, ↓dn_sw, ↓dn_pop32, ↓dn_pop64, ↓dn_aop, ↓dn_call, ↓dn_max, ↓dn_min, ↓dn_acp, ↓dn_i2l, ↓dn_args0, ↓dn_args1, og_pad, og_ent, og_rlt, og_rle, og_rgt, og_rge, og_req, og_rne, og_padd, og_psub, og_pmul, List.getD_cons_zero, List.getD_cons_succ, List.set_cons_zero, List.set_cons_succ, List.length_cons, List.length_nil, List.cons_append, List.nil_append, List.replicate, List.append_nil, Nat.reduceAdd, Nat.reduceSub, Nat.reduceEqDiff, if_true, if_false, reduceIte, Int.reduceAdd, Int.reduceSub, Int.reduceMul, Int.reduceNeg, Int.reduceLT, Int.reduceLE, Int.cast_ofNat_Int, true_or, or_true, true_and, and_true, false_and, List.mem_cons, List.not_mem_nil, or_false, false_or, ne_eq]
  have w0 : wnM 1060 = 6 ∧ wnM 1061 = 5 ∧ wnM 1062 = 7 ∧ wnM 1063 = 13 ∧ wnM 1064 = 14 ∧ wnM 1065 = 15 ∧ wnM 1066 = 16 ∧ wnM 1067 = 17 ∧ wnM 1068 = 18 ∧ wnM 1069 = 3 := by decide
  unfold qw at hK
  refine r_isHC (by unfold idW; omega) ht hr (fun q h' r v f => by
    rw [w0.1] at q
    have := hK h' r v f
    rw [if_pos q] at this
    exact this) (fun q0 h1 r1 v1 g1 => ?_)
  rw [w0.1] at q0
  have t1 : txM h1 B n := txM_X ht (frX_2 g1)
  refine r_isHC (by unfold idW; omega) t1 r1 (fun q h' r v f => by
    rw [w0.2.1] at q
    have := hK h' r v (fr2_tr g1 f)
    rw [if_neg q0, if_pos q] at this
    exact this) (fun q1 h2 r2 v2 f2 => ?_)
  rw [w0.2.1] at q1
  have g2 := fr2_tr g1 f2
  have t2 : txM h2 B n := txM_X t1 (frX_2 f2)
  refine r_isHC (by unfold idW; omega) t2 r2 (fun q h' r v f => by
    rw [w0.2.2.1] at q
    have := hK h' r v (fr2_tr g2 f)
    rw [if_neg q0, if_neg q1, if_pos q] at this
    exact this) (fun q2 h3 r3 v3 f3 => ?_)
  rw [w0.2.2.1] at q2
  have g3 := fr2_tr g2 f3
  have t3 : txM h3 B n := txM_X t2 (frX_2 f3)
  refine r_isHC (by unfold idW; omega) t3 r3 (fun q h' r v f => by
    rw [w0.2.2.2.1] at q
    have := hK h' r v (fr2_tr g3 f)
    rw [if_neg q0, if_neg q1, if_neg q2, if_pos q] at this
    exact this) (fun q3 h4 r4 v4 f4 => ?_)
  rw [w0.2.2.2.1] at q3
  have g4 := fr2_tr g3 f4
  have t4 : txM h4 B n := txM_X t3 (frX_2 f4)
  refine r_isHC (by unfold idW; omega) t4 r4 (fun q h' r v f => by
    rw [w0.2.2.2.2.1] at q
    have := hK h' r v (fr2_tr g4 f)
    rw [if_neg q0, if_neg q1, if_neg q2, if_neg q3, if_pos q] at this
    exact this) (fun q4 h5 r5 v5 f5 => ?_)
  rw [w0.2.2.2.2.1] at q4
  have g5 := fr2_tr g4 f5
  have t5 : txM h5 B n := txM_X t4 (frX_2 f5)
  refine r_isHC (by unfold idW; omega) t5 r5 (fun q h' r v f => by
    rw [w0.2.2.2.2.2.1] at q
    have := hK h' r v (fr2_tr g5 f)
    rw [if_neg q0, if_neg q1, if_neg q2, if_neg q3, if_neg q4, if_pos q] at this
    exact this) (fun q5 h6 r6 v6 f6 => ?_)
  rw [w0.2.2.2.2.2.1] at q5
  have g6 := fr2_tr g5 f6
  have t6 : txM h6 B n := txM_X t5 (frX_2 f6)
  refine r_isHC (by unfold idW; omega) t6 r6 (fun q h' r v f => by
    rw [w0.2.2.2.2.2.2.1] at q
    have := hK h' r v (fr2_tr g6 f)
    rw [if_neg q0, if_neg q1, if_neg q2, if_neg q3, if_neg q4, if_neg q5, if_pos q] at this
    exact this) (fun q6 h7 r7 v7 f7 => ?_)
  rw [w0.2.2.2.2.2.2.1] at q6
  have g7 := fr2_tr g6 f7
  have t7 : txM h7 B n := txM_X t6 (frX_2 f7)
  refine r_isHC (by unfold idW; omega) t7 r7 (fun q h' r v f => by
    rw [w0.2.2.2.2.2.2.2.1] at q
    have := hK h' r v (fr2_tr g7 f)
    rw [if_neg q0, if_neg q1, if_neg q2, if_neg q3, if_neg q4, if_neg q5, if_neg q6, if_pos q] at this
    exact this) (fun q7 h8 r8 v8 f8 => ?_)
  rw [w0.2.2.2.2.2.2.2.1] at q7
  have g8 := fr2_tr g7 f8
  have t8 : txM h8 B n := txM_X t7 (frX_2 f8)
  refine r_isHC (by unfold idW; omega) t8 r8 (fun q h' r v f => by
    rw [w0.2.2.2.2.2.2.2.2.1] at q
    have := hK h' r v (fr2_tr g8 f)
    rw [if_neg q0, if_neg q1, if_neg q2, if_neg q3, if_neg q4, if_neg q5, if_neg q6, if_neg q7, if_pos q] at this
    exact this) (fun q8 h9 r9 v9 f9 => ?_)
  rw [w0.2.2.2.2.2.2.2.2.1] at q8
  have g9 := fr2_tr g8 f9
  have t9 : txM h9 B n := txM_X t8 (frX_2 f9)
  refine r_isHC (by unfold idW; omega) t9 r9 (fun q h' r v f => by
    rw [w0.2.2.2.2.2.2.2.2.2] at q
    have := hK h' r v (fr2_tr g9 f)
    rw [if_neg q0, if_neg q1, if_neg q2, if_neg q3, if_neg q4, if_neg q5, if_neg q6, if_neg q7, if_neg q8, if_pos q] at this
    exact this) (fun q9 h10 r10 v10 f10 => ?_)
  rw [w0.2.2.2.2.2.2.2.2.2] at q9
  have g10 := fr2_tr g9 f10
  have t10 : txM h10 B n := txM_X t9 (frX_2 f10)
  have := hK h10 r10 v10 g10
  rw [if_neg q0, if_neg q1, if_neg q2, if_neg q3, if_neg q4, if_neg q5, if_neg q6, if_neg q7, if_neg q8, if_neg q9] at this
  exact this
def kdM (pu : Int) : Int := if pu = 9 then 1 else if pu = 11 then 2 else if pu = 13 then 3 else 0
def alw (pu w : Int) : Bool := decide (w < 4) || (decide (pu = 9) && decide (w = 4)) || (decide (pu = 11) && decide (w = 5)) || (decide (pu = 13) && decide (5 < w))
theorem r_isAllowed {pu w : Int} (hk : h 1000 48 = kdM pu) (hK : K (if alw pu w = true then 1 else 0) h) : m_Model_isAllowed [1000, w] h K := by
  unfold m_Model_isAllowed
  simp -implicitDefEqProofs only [↓dn_den, ↓dn_loc, ↓dn_k, ↓dn_add, ↓dn_sub, ↓dn_mul, ↓dn_div, ↓dn_rem, ↓dn_bop, ↓dn_ladd, ↓dn_lsub, ↓dn_lmul, ↓dn_ldiv, ↓dn_lrem, ↓dn_land, ↓dn_l2i, ↓dn_neg, ↓dn_get, ↓dn_fix, ↓dn_ald, ↓dn_gld, ↓dn_yld, ↓dn_len, ↓dn_gln, ↓dn_cc, ↓dn_cb, ↓dn_and, ↓dn_or, ↓dn_not, ↓dn_cite, ↓dn_ec, ↓dn_ei, ↓dn_skip, ↓dn_seq, ↓dn_set, ↓dn_inc, ↓dn_putf, ↓dn_putz, ↓dn_ast, ↓dn_exp, ↓dn_if, ↓dn_ret, ↓dn_retz, ↓dn_retv, ↓dn_brk, ↓dn_cont, ↓dn_cs, ↓dn_sw, ↓dn_pop32, ↓dn_pop64, ↓dn_aop, ↓dn_call, ↓dn_max, ↓dn_min, ↓dn_acp, ↓dn_i2l, ↓dn_args0, ↓dn_args1, og_pad, og_ent, og_rlt, og_rle, og_rgt, og_rge, og_req, og_rne, og_padd, og_psub, og_pmul, List.getD_cons_zero, List.getD_cons_succ, List.set_cons_zero, List.set_cons_succ, List.length_cons, List.length_nil, List.cons_append, List.nil_append, List.replicate, List.append_nil, Nat.reduceAdd, Nat.reduceSub, Nat.reduceEqDiff, if_true, if_false, reduceIte, Int.reduceAdd, Int.reduceSub, Int.reduceMul, Int.reduceNeg, Int.reduceLT, Int.reduceLE, Int.cast_ofNat_Int, true_or, or_true, true_and, and_true, false_and, List.mem_cons, List.not_mem_nil, or_false, false_or, ne_eq]
  rw [hk]
  unfold kdM
  unfold alw at hK
  have K1 : (w < 4 ∨ (pu = 9 ∧ w = 4) ∨ (pu = 11 ∧ w = 5) ∨ (pu = 13 ∧ 5 < w)) → K 1 h := fun z => by
    rw [if_pos (by simp only [Bool.or_eq_true, Bool.and_eq_true, decide_eq_true_eq]; omega)] at hK
    exact hK
  have K0 : ¬ (w < 4 ∨ (pu = 9 ∧ w = 4) ∨ (pu = 11 ∧ w = 5) ∨ (pu = 13 ∧ 5 < w)) → K 0 h := fun z => by
    rw [if_neg (by simp only [Bool.or_eq_true, Bool.and_eq_true, decide_eq_true_eq]; omega)] at hK
    exact hK
  by_cases p9 : pu = 9
  · rw [if_pos p9]
    clear hK
    simp
    exact ⟨fun z => K1 (by omega), fun z => K0 (by omega)⟩
  rw [if_neg p9]
  by_cases p11 : pu = 11
  · rw [if_pos p11]
    clear hK
    simp
    exact ⟨fun z => K1 (by omega), fun z => ⟨fun y => K1 (by omega), fun y => K0 (by omega)⟩⟩
  rw [if_neg p11]
  by_cases p13 : pu = 13
  · rw [if_pos p13]
    clear hK
    simp
    exact ⟨fun z => K1 (by omega), fun z => ⟨fun y => K1 (by omega), fun y => K0 (by omega)⟩⟩
  · rw [if_neg p13]
    clear hK
    simp
    exact ⟨fun z => K1 (by omega), fun z => K0 (by omega)⟩
theorem qw_rg (w : Int) : -1 ≤ qw w ∧ qw w ≤ 9 := by
  unfold qw
  repeat' split
  all_goals omega
theorem r_qWordOf {pu l m : Int} (hk : h 1000 48 = kdM pu) (hl : 0 ≤ l) (ht : txM h B n) (hr : refS h B n a) (hK : ∀ h', refS h' B n a → h' 1000 2 = tS B n a → (∀ i k, ¬ (i = 1000 ∧ k = 2) → h' i k = h i k) → K (if l ≤ qw (wrd B n a) ∧ qw (wrd B n a) < m ∧ alw pu (qw (wrd B n a)) = true then qw (wrd B n a) else -1) h') : m_Model_qWordOf [1000, l, m] h K := by
  unfold m_Model_qWordOf
  simp -implicitDefEqProofs only [↓dn_den, ↓dn_loc, ↓dn_k, ↓dn_add, ↓dn_sub, ↓dn_mul, ↓dn_div, ↓dn_rem, ↓dn_bop, ↓dn_ladd, ↓dn_lsub, ↓dn_lmul, ↓dn_ldiv, ↓dn_lrem, ↓dn_land, ↓dn_l2i, ↓dn_neg, ↓dn_get, ↓dn_fix, ↓dn_ald, ↓dn_gld, ↓dn_yld, ↓dn_len, ↓dn_gln, ↓dn_cc, ↓dn_cb, ↓dn_and, ↓dn_or, ↓dn_not, ↓dn_cite, ↓dn_ec, ↓dn_ei, ↓dn_skip, ↓dn_seq, ↓dn_set, ↓dn_inc, ↓dn_putf, ↓dn_putz, ↓dn_ast, ↓dn_exp, ↓dn_if, ↓dn_ret, ↓dn_retz, ↓dn_retv, ↓dn_brk, ↓dn_cont, ↓dn_cs, ↓dn_sw, ↓dn_pop32, ↓dn_pop64, ↓dn_aop, ↓dn_call, ↓dn_max, ↓dn_min, ↓dn_acp, ↓dn_i2l, ↓dn_args0, ↓dn_args1, og_pad, og_ent, og_rlt, og_rle, og_rgt, og_rge, og_req, og_rne, og_padd, og_psub, og_pmul, List.getD_cons_zero, List.getD_cons_succ, List.set_cons_zero, List.set_cons_succ, List.length_cons, List.length_nil, List.cons_append, List.nil_append, List.replicate, List.append_nil, Nat.reduceAdd, Nat.reduceSub, Nat.reduceEqDiff, if_true, if_false, reduceIte, Int.reduceAdd, Int.reduceSub, Int.reduceMul, Int.reduceNeg, Int.reduceLT, Int.reduceLE, Int.cast_ofNat_Int, true_or, or_true, true_and, and_true, false_and, List.mem_cons, List.not_mem_nil, or_false, false_or, ne_eq]
  refine r_qWordHere ht hr (fun h1 r1 v1 f1 => ?_)
  have fin := hK h1 r1 v1 f1
  have no : ¬ (l ≤ qw (wrd B n a) ∧ qw (wrd B n a) < m ∧ alw pu (qw (wrd B n a)) = true) → K (-1) h1 := fun z => by rw [if_neg z] at fin; exact fin
  refine ⟨fun z => ⟨fun y => r_isAllowed (pu := pu) (by rw [f1 _ _ (by decide)]; exact hk) ⟨fun x => ?_, fun x => ?_⟩, fun y => ?_⟩, fun z => ?_⟩
  · have x := ite10 x
    rw [if_pos ⟨z, y, x⟩] at fin
    exact fin
  · exact no (fun q => by rw [ite00 x] at q; cases q.2.2)
  · exact no (fun q => by omega)
  · exact no (fun q => by omega)
theorem r_qAsksWord {x : Int} (hx : 0 ≤ x ∧ x ≤ 9) (ht : txM h B n) (hr : refS h B n a) (hw : wrd B n a = wnM (1060 + x)) (hT : ∀ h', refS h' B n (tE B n a) → frX h h' → K 0 h') : m_Model_qAsksWord [1000, x] h K := by
  have hx2 : x = 0 ∨ x = 1 ∨ x = 2 ∨ x = 3 ∨ x = 4 ∨ x = 5 ∨ x = 6 ∨ x = 7 ∨ x = 8 ∨ x = 9 := by omega
  unfold m_Model_qAsksWord
  rcases hx2 with rfl | rfl | rfl | rfl | rfl | rfl | rfl | rfl | rfl | rfl
  all_goals
    simp -implicitDefEqProofs only [↓dn_den, ↓dn_loc, ↓dn_k, ↓dn_add, ↓dn_sub, ↓dn_mul, ↓dn_div, ↓dn_rem, ↓dn_bop, ↓dn_ladd, ↓dn_lsub, ↓dn_lmul, ↓dn_ldiv, ↓dn_lrem, ↓dn_land, ↓dn_l2i, ↓dn_neg, ↓dn_get, ↓dn_fix, ↓dn_ald, ↓dn_gld, ↓dn_yld, ↓dn_len, ↓dn_gln, ↓dn_cc, ↓dn_cb, ↓dn_and, ↓dn_or, ↓dn_not, ↓dn_cite, ↓dn_ec, ↓dn_ei, ↓dn_skip, ↓dn_seq, ↓dn_set, ↓dn_inc, ↓dn_putf, ↓dn_putz, ↓dn_ast, ↓dn_exp, ↓dn_if, ↓dn_ret, ↓dn_retz, ↓dn_retv, ↓dn_brk, ↓dn_cont, ↓dn_cs, ↓dn_sw, ↓dn_pop32, ↓dn_pop64, ↓dn_aop, ↓dn_call, ↓dn_max, ↓dn_min, ↓dn_acp, ↓dn_i2l, ↓dn_args0, ↓dn_args1, og_pad, og_ent, og_rlt, og_rle, og_rgt, og_rge, og_req, og_rne, og_padd, og_psub, og_pmul, List.getD_cons_zero, List.getD_cons_succ, List.set_cons_zero, List.set_cons_succ, List.length_cons, List.length_nil, List.cons_append, List.nil_append, List.replicate, List.append_nil, Nat.reduceAdd, Nat.reduceSub, Nat.reduceEqDiff, if_true, if_false, reduceIte, Int.reduceAdd, Int.reduceSub, Int.reduceMul, Int.reduceNeg, Int.reduceLT, Int.reduceLE, Int.cast_ofNat_Int, true_or, or_true, true_and, and_true, false_and, List.mem_cons, List.not_mem_nil, or_false, false_or, ne_eq]
    simp
    exact r_asks (by unfold idW; omega) ht hr (fun _ h1 r1 f1 => hT h1 r1 f1) (fun z => absurd hw z)
theorem r_qAsksWordF {x : Int} (h5 : h 1000 5 ≠ 0) (hx : 0 ≤ x ∧ x ≤ 9) (hK : K 0 h) : m_Model_qAsksWord [1000, x] h K := by
  have hx2 : x = 0 ∨ x = 1 ∨ x = 2 ∨ x = 3 ∨ x = 4 ∨ x = 5 ∨ x = 6 ∨ x = 7 ∨ x = 8 ∨ x = 9 := by omega
  unfold m_Model_qAsksWord
  rcases hx2 with rfl | rfl | rfl | rfl | rfl | rfl | rfl | rfl | rfl | rfl
  all_goals
    simp -implicitDefEqProofs only [↓dn_den, ↓dn_loc, ↓dn_k, ↓dn_add, ↓dn_sub, ↓dn_mul, ↓dn_div, ↓dn_rem, ↓dn_bop, ↓dn_ladd, ↓dn_lsub, ↓dn_lmul, ↓dn_ldiv, ↓dn_lrem, ↓dn_land, ↓dn_l2i, ↓dn_neg, ↓dn_get, ↓dn_fix, ↓dn_ald, ↓dn_gld, ↓dn_yld, ↓dn_len, ↓dn_gln, ↓dn_cc, ↓dn_cb, ↓dn_and, ↓dn_or, ↓dn_not, ↓dn_cite, ↓dn_ec, ↓dn_ei, ↓dn_skip, ↓dn_seq, ↓dn_set, ↓dn_inc, ↓dn_putf, ↓dn_putz, ↓dn_ast, ↓dn_exp, ↓dn_if, ↓dn_ret, ↓dn_retz, ↓dn_retv, ↓dn_brk, ↓dn_cont, ↓dn_cs, ↓dn_sw, ↓dn_pop32, ↓dn_pop64, ↓dn_aop, ↓dn_call, ↓dn_max, ↓dn_min, ↓dn_acp, ↓dn_i2l, ↓dn_args0, ↓dn_args1, og_pad, og_ent, og_rlt, og_rle, og_rgt, og_rge, og_req, og_rne, og_padd, og_psub, og_pmul, List.getD_cons_zero, List.getD_cons_succ, List.set_cons_zero, List.set_cons_succ, List.length_cons, List.length_nil, List.cons_append, List.nil_append, List.replicate, List.append_nil, Nat.reduceAdd, Nat.reduceSub, Nat.reduceEqDiff, if_true, if_false, reduceIte, Int.reduceAdd, Int.reduceSub, Int.reduceMul, Int.reduceNeg, Int.reduceLT, Int.reduceLE, Int.cast_ofNat_Int, true_or, or_true, true_and, and_true, false_and, List.mem_cons, List.not_mem_nil, or_false, false_or, ne_eq]
    simp
    exact r_asksF h5 hK
end
end
