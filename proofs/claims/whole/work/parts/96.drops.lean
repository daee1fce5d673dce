section
-- the reference's dropping of what waits
section
variable {h h0 h' : Hp} {B : Int → Int} {n a o : Int} {c V W W0 : List Int} {K : Int → Hp → Prop}
theorem tw_sp (p : Int → Bool) : ∀ V : List Int, ∃ L : Nat, V.takeWhile p = V.take L ∧ V.dropWhile p = V.drop L ∧ L ≤ V.length ∧ (∀ i, i < L → p (V.getD i 0) = true) ∧ (L < V.length → p (V.getD L 0) = false)
  | [] => ⟨0, rfl, rfl, Nat.le_refl _, fun i hi => by omega, fun hi => by simp at hi⟩
  | v :: V => by
    by_cases q : p v = true
    · obtain ⟨L, h1, h2, h3, h4, h5⟩ := tw_sp p V
      refine ⟨L + 1, by simp [List.takeWhile, q, h1], by simp [List.dropWhile, q, h2], by simp; omega, fun i hi => ?_, fun hi => ?_⟩
      · cases i with
        | zero => simpa using q
        | succ i => simpa using h4 i (by omega)
      · simp at hi
        simpa using h5 (by omega)
    · have q : p v = false := by simpa using q
      exact ⟨0, by simp [List.takeWhile, q], by simp [List.dropWhile, q], Nat.zero_le _, fun i hi => by omega, fun _ => by simpa using q⟩
theorem drop_c {i : Nat} (hi : i < V.length) : V.drop i = V.getD i 0 :: V.drop (i + 1) := by
  rw [List.drop_eq_getElem_cons hi]
  simp [List.getD_eq_getElem?_getD, hi]
theorem take_c {i : Nat} (hi : i < V.length) : V.take (i + 1) = V.take i ++ [V.getD i 0] := by
  rw [List.take_succ]
  simp [List.getD_eq_getElem?_getD, hi]
/-- the first i of what waits are dropped -/
def drI (h : Hp) (V W0 c : List Int) (i : Nat) (h' : Hp) : Prop := stM h' (V.drop i ++ W0) ∧ cdM h' (c ++ dcl (V.take i)) ∧ frD h h'
theorem drI_0 (hs : stM h (V ++ W0)) (hc : cdM h c) : drI h V W0 c 0 h := ⟨hs, by simpa [dcl] using hc, frD_rf⟩
theorem drI_step {i : Nat} (hd : drI h V W0 c i h') (hi : i < V.length) (hv : okc (V.getD i 0)) (hl : (c.length : Int) + (V.length : Int) + W0.length ≤ 1700) (hK : ∀ h2, drI h V W0 c (i + 1) h2 → K 0 h2) : m_Model_qDrops [1000] h' K := by
  obtain ⟨d1, d2, d3⟩ := hd
  rw [drop_c hi, List.cons_append] at d1
  refine r_qDrops d1 d2 (by
    rw [List.length_append, List.length_append]
    unfold dcl
    rw [List.length_map, List.length_take, List.length_drop]
    omega) hv (fun h2 s2 c2 f2 => hK h2 ⟨s2, ?_, frD_tr d3 f2⟩)
  rw [take_c hi, dcl_app, ← List.append_assoc]
  exact c2
theorem drI_top {i : Nat} (hd : drI h V W0 c i h') (hi : i < V.length) : h' 1000 93 = (V.length : Int) - i + W0.length ∧ h' 1071 ((V.length : Int) - i + W0.length - 1) = V.getD i 0 := by
  obtain ⟨d1, d2, d3⟩ := hd
  have l1 : ((V.drop i ++ W0).length : Int) = (V.length : Int) - i + W0.length := by rw [List.length_append, List.length_drop]; omega
  refine ⟨by rw [d1.1, l1], ?_⟩
  rw [drop_c hi, List.cons_append] at d1
  have := stM_hd d1
  rw [← this]
  congr 1
  rw [List.length_append, List.length_drop]; omega
theorem drI_len {i : Nat} (hd : drI h V W0 c i h') (hi : i ≤ V.length) : h' 1000 93 = (V.length : Int) - i + W0.length := by
  rw [hd.1.1, List.length_append, List.length_drop]; omega
theorem st_top {v : Int} (hs : stM h (v :: W)) : h 1000 93 = (W.length : Int) + 1 ∧ h 1071 ((W.length : Int) + 1 - 1) = v := ⟨by rw [hs.1]; simp, by rw [show (W.length : Int) + 1 - 1 = W.length by omega]; exact stM_hd hs⟩
def hd0 (W : List Int) : Int := W.getD 0 0
theorem r_qIsOn {v : Int} (hv : ¬ v = 0) (hs : stM h W) (hl : W.length < 1700) (hK : K (if hd0 W = v then 1 else 0) h) : m_Model_qIsOn [1000, v] h K := by
  unfold m_Model_qIsOn
  simp -implicitDefEqProofs only [↓dn_den, ↓dn_loc, ↓dn_k, ↓dn_add, ↓dn_sub, ↓dn_mul, ↓dn_div, ↓dn_rem, ↓dn_bop, ↓dn_ladd, ↓dn_lsub, ↓dn_lmul, ↓dn_ldiv, ↓dn_lrem, ↓dn_land, ↓dn_l2i, ↓dn_neg, ↓dn_get, ↓dn_fix, ↓dn_ald, ↓dn_gld, ↓dn_yld, ↓dn_len, ↓dn_gln, ↓dn_cc, ↓dn_cb, ↓dn_and, ↓dn_or, ↓dn_not, ↓dn_cite, ↓dn_ec, ↓dn_ei, ↓dn_skip, ↓dn_seq, ↓dn_set, ↓dn_inc, ↓dn_putf, ↓dn_putz, ↓dn_ast, ↓dn_exp, ↓dn_if, ↓dn_ret, ↓dn_retz, ↓dn_retv, ↓dn_brk, ↓dn_cont, ↓dn_cs, ↓dn_sw, ↓dn_pop32, ↓dn_pop64, ↓dn_aop, ↓dn_call, ↓dn_max, ↓dn_min, ↓dn_acp, ↓dn_i2l, ↓dn_args0, ↓dn_args1, og_pad, og_ent, og_rlt, og_rle, og_rgt, og_rge, og_req, og_rne, og_padd, og_psub, og_pmul, List.getD_cons_zero, List.getD_cons_succ, List.set_cons_zero, List.set_cons_succ, List.length_cons, List.length_nil, List.cons_append, List.nil_append, List.replicate, List.append_nil, Nat.reduceAdd, Nat.reduceSub, Nat.reduceEqDiff, if_true, if_false, reduceIte, Int.reduceAdd, Int.reduceSub, Int.reduceMul, Int.reduceNeg, Int.reduceLT, Int.reduceLE, Int.cast_ofNat_Int, true_or, or_true, true_and, and_true, false_and, List.mem_cons, List.not_mem_nil, or_false, false_or, ne_eq, og_i32]
  cases W with
  | nil =>
    have : h 1000 93 = 0 := hs.1
    rw [this]
    rw [if_neg (show ¬ hd0 [] = v from fun z => hv z.symm)] at hK
    refine ⟨fun z => absurd z (by decide), fun _ => ?_⟩
    first | exact hK | exact ⟨by decide, hK⟩
  | cons x W =>
    have t := st_top hs
    rw [t.1, t.2]
    simp at hl
    refine ⟨fun _ => ⟨by omega, by omega, by omega, fun z => ?_, fun z => ?_⟩, fun z => by omega⟩
    · rw [if_pos (show hd0 (x :: W) = v from z)] at hK
      first | exact hK | exact ⟨by decide, hK⟩
    · rw [if_neg (show ¬ hd0 (x :: W) = v from z)] at hK
      first | exact hK | exact ⟨by decide, hK⟩
theorem r_qIsOnC {v : Int} {X Y : Hp → Prop} (hv : ¬ v = 0) (hs : stM h W) (hl : W.length < 1700) (hX : hd0 W = v → X h) (hY : ¬ hd0 W = v → Y h) : m_Model_qIsOn [1000, v] h (fun u h' => (¬ u = 0 → X h') ∧ (u = 0 → Y h')) := by
  refine r_qIsOn hv hs hl ?_
  by_cases q : hd0 W = v
  · rw [if_pos q]
    exact ⟨fun _ => hX q, fun z => absurd z (by decide)⟩
  · rw [if_neg q]
    exact ⟨fun z => absurd rfl z, fun _ => hY q⟩
theorem r_qIsBracket {v : Int} {X Y : Hp → Prop} (hX : isB v = true → X h) (hY : isB v = false → Y h) : m_Model_qIsBracket [v] h (fun u h' => (¬ u = 0 → X h') ∧ (u = 0 → Y h')) := by
  unfold m_Model_qIsBracket
  simp -implicitDefEqProofs only [↓dn_den, ↓dn_loc, ↓dn_k, ↓dn_add, ↓dn_sub, ↓dn_mul, ↓dn_div, ↓dn_rem, ↓dn_bop, ↓dn_ladd, ↓dn_lsub, ↓dn_lmul, ↓dn_ldiv, ↓dn_lrem, ↓dn_land, ↓dn_l2i, ↓dn_neg, ↓dn_get, ↓dn_fix, ↓dn_ald, ↓dn_gld, ↓dn_yld, ↓dn_len, ↓dn_gln, ↓dn_cc, ↓dn_cb, ↓dn_and, ↓dn_or, ↓dn_not, ↓dn_cite, ↓dn_ec, ↓dn_ei, ↓dn_skip, ↓dn_seq, ↓dn_set, ↓dn_inc, ↓dn_putf, ↓dn_putz, ↓dn_ast, ↓dn_exp, ↓dn_if, ↓dn_ret, ↓dn_retz, ↓dn_retv, ↓dn_brk, ↓dn_cont, ↓dn_cs, ↓dn_sw, ↓dn_pop32, ↓dn_pop64, ↓dn_aop, ↓dn_call, ↓dn_max, ↓dn_min, ↓dn_acp, ↓dn_i2l, ↓dn_args0, ↓dn_args1, og_pad, og_ent, og_rlt, og_rle, og_rgt, og_rge, og_req, og_rne, og_padd, og_psub, og_pmul, List.getD_cons_zero, List.getD_cons_succ, List.set_cons_zero, List.set_cons_succ, List.length_cons, List.length_nil, List.cons_append, List.nil_append, List.replicate, List.append_nil, Nat.reduceAdd, Nat.reduceSub, Nat.reduceEqDiff, if_true, if_false, reduceIte, Int.reduceAdd, Int.reduceSub, Int.reduceMul, Int.reduceNeg, Int.reduceLT, Int.reduceLE, Int.cast_ofNat_Int, true_or, or_true, true_and, and_true, false_and, List.mem_cons, List.not_mem_nil, or_false, false_or, ne_eq]
  unfold isB at hX hY
  refine ⟨fun z => ⟨fun y => ?_, fun y => ?_⟩, fun z => ?_⟩
  · have := hX (by simp; omega)
    simp
    exact this
  · have := hY (by simp; omega)
    simp
    exact this
  · have := hY (by simp; omega)
    simp
    exact this
theorem br_at {L : Nat} (h1 : ∀ i, i < L → nB (V.getD i 0) = true) (hL : L ≤ V.length) (h2 : L < V.length → nB (V.getD L 0) = false) : br V = if L < V.length then V.getD L 0 else -1 := by
  induction V generalizing L with
  | nil => simp [br]
  | cons v V ih =>
    cases L with
    | zero =>
      have := h2 (by simp)
      unfold nB at this
      have : isB v = true := by simpa using this
      show (if isB v = true then v else br V) = _
      rw [if_pos this, if_pos (by simp)]
      simp
    | succ L =>
      have := h1 0 (by omega)
      unfold nB at this
      have : isB v = false := by simpa using this
      show (if isB v = true then v else br V) = _
      rw [if_neg (by rw [this]; decide), ih (L := L) (fun i hi => by simpa using h1 (i + 1) (by omega)) (by simp at hL; omega) (fun hi => by simpa using h2 (by simp; omega))]
      simp
theorem r_qBracket (hs : stM h (V ++ W0)) (hb : h 1000 95 = W0.length) (hl : (V.length : Int) + W0.length < 1700) (hK : K (br V) h) : m_Model_qBracket [1000] h K := by
  obtain ⟨L, t1, t2, t3, t4, t5⟩ := tw_sp nB V
  have eb := br_at t4 t3 t5
  have h93 : h 1000 93 = (V.length : Int) + W0.length := by rw [hs.1, List.length_append]; omega
  have at_ : ∀ i : Nat, i < V.length → h 1071 ((V.length : Int) + W0.length - 1 - i) = V.getD i 0 := by
    intro i hi
    have := hs.2 (V.length + W0.length - 1 - i) (by rw [List.length_append]; omega)
    rw [show (((V.length + W0.length - 1 - i : Nat)) : Int) = (V.length : Int) + W0.length - 1 - i by omega] at this
    rw [this, List.length_append, show V.length + W0.length - 1 - (V.length + W0.length - 1 - i) = i by omega]
    simp only [List.getD_eq_getElem?_getD]
    rw [List.getElem?_append_left hi]
  unfold m_Model_qBracket
  simp -implicitDefEqProofs only [↓dn_den, ↓dn_loc, ↓dn_k, ↓dn_add, ↓dn_sub, ↓dn_mul, ↓dn_div, ↓dn_rem, ↓dn_bop, ↓dn_ladd, ↓dn_lsub, ↓dn_lmul, ↓dn_ldiv, ↓dn_lrem, ↓dn_land, ↓dn_l2i, ↓dn_neg, ↓dn_get, ↓dn_fix, ↓dn_ald, ↓dn_gld, ↓dn_yld, ↓dn_len, ↓dn_gln, ↓dn_cc, ↓dn_cb, ↓dn_and, ↓dn_or, ↓dn_not, ↓dn_cite, ↓dn_ec, ↓dn_ei, ↓dn_skip, ↓dn_seq, ↓dn_set, ↓dn_inc, ↓dn_putf, ↓dn_putz, ↓dn_ast, ↓dn_exp, ↓dn_if, ↓dn_ret, ↓dn_retz, ↓dn_retv, ↓dn_brk, ↓dn_cont, ↓dn_cs, ↓dn_sw, ↓dn_pop32, ↓dn_pop64, ↓dn_aop, ↓dn_call, ↓dn_max, ↓dn_min, ↓dn_acp, ↓dn_i2l, ↓dn_args0, ↓dn_args1, og_pad, og_ent, og_rlt, og_rle, og_rgt, og_rge, og_req, og_rne, og_padd, og_psub, og_pmul, List.getD_cons_zero, List.getD_cons_succ, List.set_cons_zero, List.set_cons_succ, List.length_cons, List.length_nil, List.cons_append, List.nil_append, List.replicate, List.append_nil, Nat.reduceAdd, Nat.reduceSub, Nat.reduceEqDiff, if_true, if_false, reduceIte, Int.reduceAdd, Int.reduceSub, Int.reduceMul, Int.reduceNeg, Int.reduceLT, Int.reduceLE, Int.cast_ofNat_Int, true_or, or_true, true_and, and_true, false_and, List.mem_cons, List.not_mem_nil, or_false, false_or, ne_eq, og_i32]
  rw [h93]
  refine ⟨by omega, ?_⟩
  refine ⟨fun e2 h2 => h2 = h ∧ e2 = [1000, (V.length : Int) + W0.length - 1 - L], ?_, ?_⟩
  · refine og_loop L (fun i e2 h2 => h2 = h ∧ e2 = [1000, (V.length : Int) + W0.length - 1 - i]) ⟨rfl, by simp⟩ ?_
    rintro i e2 h2 hi ⟨rfl, rfl⟩
    simp -implicitDefEqProofs only [↓dn_den, ↓dn_loc, ↓dn_k, ↓dn_add, ↓dn_sub, ↓dn_mul, ↓dn_div, ↓dn_rem, ↓dn_bop, ↓dn_ladd, ↓dn_lsub, ↓dn_lmul, ↓dn_ldiv, ↓dn_lrem, ↓dn_land, ↓dn_l2i, ↓dn_neg, ↓dn_get, ↓dn_fix, ↓dn_ald, ↓dn_gld, ↓dn_yld, ↓dn_len, ↓dn_gln, ↓dn_cc, ↓dn_cb, ↓dn_and, ↓dn_or, ↓dn_not, ↓dn_cite, ↓dn_ec, ↓dn_ei, ↓dn_skip, ↓dn_seq, ↓dn_set, ↓dn_inc, ↓dn_putf, ↓dn_putz, ↓dn_ast, ↓dn_exp, ↓dn_if, ↓dn_ret, ↓dn_retz, ↓dn_retv, ↓dn_brk, ↓dn_cont, ↓dn_cs, ↓dn_sw, ↓dn_pop32, ↓dn_pop64, ↓dn_aop, ↓dn_call, ↓dn_max, ↓dn_min, ↓dn_acp, ↓dn_i2l, ↓dn_args0, ↓dn_args1, og_pad, og_ent, og_rlt, og_rle, og_rgt, og_rge, og_req, og_rne, og_padd, og_psub, og_pmul, List.getD_cons_zero, List.getD_cons_succ, List.set_cons_zero, List.set_cons_succ, List.length_cons, List.length_nil, List.cons_append, List.nil_append, List.replicate, List.append_nil, Nat.reduceAdd, Nat.reduceSub, Nat.reduceEqDiff, if_true, if_false, reduceIte, Int.reduceAdd, Int.reduceSub, Int.reduceMul, Int.reduceNeg, Int.reduceLT, Int.reduceLE, Int.cast_ofNat_Int, true_or, or_true, true_and, and_true, false_and, List.mem_cons, List.not_mem_nil, or_false, false_or, ne_eq, og_i32]
    rw [hb]
    by_cases hiV : i < V.length
    · rw [at_ i hiV]
      refine ⟨fun _ => ⟨by omega, by omega, r_qIsBracket (fun z => ?_) (fun z => ?_)⟩, fun z => by omega⟩
      · have e : i = L := by
          by_cases q : i < L
          · have := t4 i q
            unfold nB at this
            rw [z] at this; cases this
          · omega
        subst e
        first | exact True.intro | exact ⟨rfl, rfl⟩ | (simp; done)
      · have q : i < L := by
          by_cases q : i < L
          · exact q
          · have e : i = L := by omega
            subst e
            have := t5 hiV
            unfold nB at this
            rw [z] at this; cases this
        refine ⟨by omega, og_nx_mk q ⟨rfl, by simp; omega⟩⟩
    · have e : i = L := by omega
      subst e
      refine ⟨fun z => by omega, fun _ => ?_⟩
      first | exact True.intro | exact ⟨rfl, rfl⟩ | (simp; done)
  · rintro e2 h2 ⟨rfl, rfl⟩
    simp -implicitDefEqProofs only [↓dn_den, ↓dn_loc, ↓dn_k, ↓dn_add, ↓dn_sub, ↓dn_mul, ↓dn_div, ↓dn_rem, ↓dn_bop, ↓dn_ladd, ↓dn_lsub, ↓dn_lmul, ↓dn_ldiv, ↓dn_lrem, ↓dn_land, ↓dn_l2i, ↓dn_neg, ↓dn_get, ↓dn_fix, ↓dn_ald, ↓dn_gld, ↓dn_yld, ↓dn_len, ↓dn_gln, ↓dn_cc, ↓dn_cb, ↓dn_and, ↓dn_or, ↓dn_not, ↓dn_cite, ↓dn_ec, ↓dn_ei, ↓dn_skip, ↓dn_seq, ↓dn_set, ↓dn_inc, ↓dn_putf, ↓dn_putz, ↓dn_ast, ↓dn_exp, ↓dn_if, ↓dn_ret, ↓dn_retz, ↓dn_retv, ↓dn_brk, ↓dn_cont, ↓dn_cs, ↓dn_sw, ↓dn_pop32, ↓dn_pop64, ↓dn_aop, ↓dn_call, ↓dn_max, ↓dn_min, ↓dn_acp, ↓dn_i2l, ↓dn_args0, ↓dn_args1, og_pad, og_ent, og_rlt, og_rle, og_rgt, og_rge, og_req, og_rne, og_padd, og_psub, og_pmul, List.getD_cons_zero, List.getD_cons_succ, List.set_cons_zero, List.set_cons_succ, List.length_cons, List.length_nil, List.cons_append, List.nil_append, List.replicate, List.append_nil, Nat.reduceAdd, Nat.reduceSub, Nat.reduceEqDiff, if_true, if_false, reduceIte, Int.reduceAdd, Int.reduceSub, Int.reduceMul, Int.reduceNeg, Int.reduceLT, Int.reduceLE, Int.cast_ofNat_Int, true_or, or_true, true_and, and_true, false_and, List.mem_cons, List.not_mem_nil, or_false, false_or, ne_eq, og_i32]
    rw [hb]
    rw [eb] at hK
    refine ⟨fun z => ?_, fun z => ?_⟩
    · rw [if_pos (by omega)] at hK
      rw [at_ L (by omega)]
      exact ⟨by omega, by omega, hK⟩
    · rw [if_neg (by omega)] at hK
      exact hK
theorem r_qDropsToBracket (hs : stM h (V ++ W0)) (hc : cdM h c) (hb : h 1000 95 = W0.length) (hl : (c.length : Int) + V.length + W0.length ≤ 1600) (hv : ∀ v ∈ V, isB v = false → okc v) (hK : ∀ h', stM h' (V.dropWhile nB ++ W0) → cdM h' (c ++ dcl (V.takeWhile nB)) → frD h h' → K 0 h') : m_Model_qDropsToBracket [1000] h K := by
  obtain ⟨L, t1, t2, t3, t4, t5⟩ := tw_sp nB V
  rw [t1, t2] at hK
  unfold m_Model_qDropsToBracket
  simp -implicitDefEqProofs only [↓dn_den, ↓dn_loc, ↓dn_k, ↓dn_add, ↓dn_sub, ↓dn_mul, ↓dn_div, ↓dn_rem, ↓dn_bop, ↓dn_ladd, ↓dn_lsub, ↓dn_lmul, ↓dn_ldiv, ↓dn_lrem, ↓dn_land, ↓dn_l2i, ↓dn_neg, ↓dn_get, ↓dn_fix, ↓dn_ald, ↓dn_gld, ↓dn_yld, ↓dn_len, ↓dn_gln, ↓dn_cc, ↓dn_cb, ↓dn_and, ↓dn_or, ↓dn_not, ↓dn_cite, ↓dn_ec, ↓dn_ei, ↓dn_skip, ↓dn_seq, ↓dn_set, ↓dn_inc, ↓dn_putf, ↓dn_putz, ↓dn_ast, ↓dn_exp, ↓dn_if, ↓dn_ret, ↓dn_retz, ↓dn_retv, ↓dn_brk, ↓dn_cont, ↓dn_cs, ↓dn_sw, ↓dn_pop32, ↓dn_pop64, ↓dn_aop, ↓dn_call, ↓dn_max, ↓dn_min, ↓dn_acp, ↓dn_i2l, ↓dn_args0, ↓dn_args1, og_pad, og_ent, og_rlt, og_rle, og_rgt, og_rge, og_req, og_rne, og_padd, og_psub, og_pmul, List.getD_cons_zero, List.getD_cons_succ, List.set_cons_zero, List.set_cons_succ, List.length_cons, List.length_nil, List.cons_append, List.nil_append, List.replicate, List.append_nil, Nat.reduceAdd, Nat.reduceSub, Nat.reduceEqDiff, if_true, if_false, reduceIte, Int.reduceAdd, Int.reduceSub, Int.reduceMul, Int.reduceNeg, Int.reduceLT, Int.reduceLE, Int.cast_ofNat_Int, true_or, or_true, true_and, and_true, false_and, List.mem_cons, List.not_mem_nil, or_false, false_or, ne_eq]
  refine og_loop L (fun i e2 h2 => e2 = [1000] ∧ drI h V W0 c i h2) ⟨rfl, drI_0 hs hc⟩ ?_
  rintro i e2 h2 hi ⟨rfl, hd⟩
  simp -implicitDefEqProofs only [↓dn_den, ↓dn_loc, ↓dn_k, ↓dn_add, ↓dn_sub, ↓dn_mul, ↓dn_div, ↓dn_rem, ↓dn_bop, ↓dn_ladd, ↓dn_lsub, ↓dn_lmul, ↓dn_ldiv, ↓dn_lrem, ↓dn_land, ↓dn_l2i, ↓dn_neg, ↓dn_get, ↓dn_fix, ↓dn_ald, ↓dn_gld, ↓dn_yld, ↓dn_len, ↓dn_gln, ↓dn_cc, ↓dn_cb, ↓dn_and, ↓dn_or, ↓dn_not, ↓dn_cite, ↓dn_ec, ↓dn_ei, ↓dn_skip, ↓dn_seq, ↓dn_set, ↓dn_inc, ↓dn_putf, ↓dn_putz, ↓dn_ast, ↓dn_exp, ↓dn_if, ↓dn_ret, ↓dn_retz, ↓dn_retv, ↓dn_brk, ↓dn_cont, ↓dn_cs, ↓dn_sw, ↓dn_pop32, ↓dn_pop64, ↓dn_aop, ↓dn_call, ↓dn_max, ↓dn_min, ↓dn_acp, ↓dn_i2l, ↓dn_args0, ↓dn_args1, og_pad, og_ent, og_rlt, og_rle, og_rgt, og_rge, og_req, og_rne, og_padd, og_psub, og_pmul, List.getD_cons_zero, List.getD_cons_succ, List.set_cons_zero, List.set_cons_succ, List.length_cons, List.length_nil, List.cons_append, List.nil_append, List.replicate, List.append_nil, Nat.reduceAdd, Nat.reduceSub, Nat.reduceEqDiff, if_true, if_false, reduceIte, Int.reduceAdd, Int.reduceSub, Int.reduceMul, Int.reduceNeg, Int.reduceLT, Int.reduceLE, Int.cast_ofNat_Int, true_or, or_true, true_and, and_true, false_and, List.mem_cons, List.not_mem_nil, or_false, false_or, ne_eq, og_i32]
  have b2 : h2 1000 95 = W0.length := by rw [hd.2.2 _ _ (by decide) (by decide)]; exact hb
  rw [b2]
  by_cases hiV : i < V.length
  · have tp := drI_top hd hiV
    rw [tp.1, tp.2]
    refine ⟨fun _ => ⟨by omega, by omega, by omega, r_qIsBracket (fun z => ?_) (fun z => ?_)⟩, fun z => by omega⟩
    · have e : i = L := by
        by_cases q : i < L
        · have := t4 i q
          unfold nB at this
          rw [z] at this; cases this
        · omega
      subst e
      exact hK h2 hd.1 hd.2.1 hd.2.2
    · have q : i < L := by
        by_cases q : i < L
        · exact q
        · have e : i = L := by omega
          subst e
          have := t5 hiV
          unfold nB at this
          rw [z] at this; cases this
      refine drI_step hd hiV (hv _ (by
        simp only [List.getD_eq_getElem?_getD, List.getElem?_eq_getElem hiV, Option.getD_some]
        exact List.getElem_mem hiV) z) (by omega) (fun h3 d3 => og_nx_mk q ⟨rfl, d3⟩)
  · have e : i = L := by omega
    subst e
    have tl := drI_len hd (by omega)
    rw [tl]
    refine ⟨fun z => by omega, fun _ => hK h2 hd.1 hd.2.1 hd.2.2⟩
theorem r_qEndsPart (hs : stM h (V ++ W0)) (hc : cdM h c) (hb : h 1000 95 = W0.length) (h5 : h 1000 5 = 0) (h94 : h 1000 94 = o) (ho : -4000 ≤ o - V.length ∧ o ≤ 6) (hl : (c.length : Int) + V.length + W0.length ≤ 1600) (hv : ∀ v ∈ V, 60 ≤ v → okc v) (hK : ∀ h' c' V' o', eP V c o = (c', V', o') → stM h' (V' ++ W0) → cdM h' c' → h' 1000 94 = o' → (∀ i k, i ≠ 1070 → ¬ (i = 1000 ∧ (k = 91 ∨ k = 93 ∨ k = 94)) → h' i k = h i k) → K 0 h') : m_Model_qEndsPart [1000] h K := by
  unfold m_Model_qEndsPart
  simp -implicitDefEqProofs only [↓dn_den, ↓dn_loc, ↓dn_k, ↓dn_add, ↓dn_sub, ↓dn_mul, ↓dn_div, ↓dn_rem, ↓dn_bop, ↓dn_ladd, ↓dn_lsub, ↓dn_lmul, ↓dn_ldiv, ↓dn_lrem, ↓dn_land, ↓dn_l2i, ↓dn_neg, ↓dn_get, ↓dn_fix, ↓dn_ald, ↓dn_gld, ↓dn_yld, ↓dn_len, ↓dn_gln, ↓dn_cc, ↓dn_cb, ↓dn_and, ↓dn_or, ↓dn_not, ↓dn_cite, ↓dn_ec, ↓dn_ei, ↓dn_skip, ↓dn_seq, ↓dn_set, ↓dn_inc, ↓dn_putf, ↓dn_putz, ↓dn_ast, ↓dn_exp, ↓dn_if, ↓dn_ret, ↓dn_retz, ↓dn_retv, ↓dn_brk, ↓dn_cont, ↓dn_cs, ↓dn_sw, ↓dn_pop32, ↓dn_pop64, ↓dn_aop, ↓dn_call, ↓dn_max, ↓dn_min, ↓dn_acp, ↓dn_i2l, ↓dn_args0, ↓dn_args1, og_pad, og_ent, og_rlt, og_rle, og_rgt, og_rge, og_req, og_rne, og_padd, og_psub, og_pmul, List.getD_cons_zero, List.getD_cons_succ, List.set_cons_zero, List.set_cons_succ, List.length_cons, List.length_nil, List.cons_append, List.nil_append, List.replicate, List.append_nil, Nat.reduceAdd, Nat.reduceSub, Nat.reduceEqDiff, if_true, if_false, reduceIte, Int.reduceAdd, Int.reduceSub, Int.reduceMul, Int.reduceNeg, Int.reduceLT, Int.reduceLE, Int.cast_ofNat_Int, true_or, or_true, true_and, and_true, false_and, List.mem_cons, List.not_mem_nil, or_false, false_or, ne_eq]
  refine og_loop V.length (fun i e2 h2 => e2 = [1000] ∧ ∃ c2 V2 o2, eP V c o = eP V2 c2 o2 ∧ (V2.length + i = V.length ∧ (c2.length : Int) + V2.length = c.length + V.length ∧ o2 - V2.length = o - V.length ∧ ∀ v ∈ V2, 60 ≤ v → okc v) ∧ stM h2 (V2 ++ W0) ∧ cdM h2 c2 ∧ h2 1000 94 = o2 ∧ (∀ i k, i ≠ 1070 → ¬ (i = 1000 ∧ (k = 91 ∨ k = 93 ∨ k = 94)) → h2 i k = h i k)) ⟨rfl, c, V, o, rfl, ⟨by omega, by omega, by omega, hv⟩, hs, hc, h94, fun _ _ _ _ => rfl⟩ ?_
  rintro i e2 h2 hi ⟨rfl, c2, V2, o2, e, ⟨g1, g2, g3, g4⟩, s2, d2, o94, f2⟩
  simp -implicitDefEqProofs only [↓dn_den, ↓dn_loc, ↓dn_k, ↓dn_add, ↓dn_sub, ↓dn_mul, ↓dn_div, ↓dn_rem, ↓dn_bop, ↓dn_ladd, ↓dn_lsub, ↓dn_lmul, ↓dn_ldiv, ↓dn_lrem, ↓dn_land, ↓dn_l2i, ↓dn_neg, ↓dn_get, ↓dn_fix, ↓dn_ald, ↓dn_gld, ↓dn_yld, ↓dn_len, ↓dn_gln, ↓dn_cc, ↓dn_cb, ↓dn_and, ↓dn_or, ↓dn_not, ↓dn_cite, ↓dn_ec, ↓dn_ei, ↓dn_skip, ↓dn_seq, ↓dn_set, ↓dn_inc, ↓dn_putf, ↓dn_putz, ↓dn_ast, ↓dn_exp, ↓dn_if, ↓dn_ret, ↓dn_retz, ↓dn_retv, ↓dn_brk, ↓dn_cont, ↓dn_cs, ↓dn_sw, ↓dn_pop32, ↓dn_pop64, ↓dn_aop, ↓dn_call, ↓dn_max, ↓dn_min, ↓dn_acp, ↓dn_i2l, ↓dn_args0, ↓dn_args1, og_pad, og_ent, og_rlt, og_rle, og_rgt, og_rge, og_req, og_rne, og_padd, og_psub, og_pmul, List.getD_cons_zero, List.getD_cons_succ, List.set_cons_zero, List.set_cons_succ, List.length_cons, List.length_nil, List.cons_append, List.nil_append, List.replicate, List.append_nil, Nat.reduceAdd, Nat.reduceSub, Nat.reduceEqDiff, if_true, if_false, reduceIte, Int.reduceAdd, Int.reduceSub, Int.reduceMul, Int.reduceNeg, Int.reduceLT, Int.reduceLE, Int.cast_ofNat_Int, true_or, or_true, true_and, and_true, false_and, List.mem_cons, List.not_mem_nil, or_false, false_or, ne_eq, og_i32]
  have b2 : h2 1000 95 = W0.length := by rw [f2 _ _ (by decide) (by decide)]; exact hb
  have h25 : h2 1000 5 = 0 := by rw [f2 _ _ (by decide) (by decide)]; exact h5
  refine ⟨fun _ => ?_, fun z => absurd h25 z⟩
  rw [b2]
  cases V2 with
  | nil =>
    have e93 : h2 1000 93 = W0.length := s2.1
    rw [e93]
    exact ⟨fun z => by omega, fun _ => hK h2 c2 [] o2 e s2 d2 o94 f2⟩
  | cons v V2 =>
    have s3 : stM h2 (v :: (V2 ++ W0)) := s2
    have t := st_top s3
    have le : ((V2 ++ W0).length : Int) = V2.length + W0.length := by rw [List.length_append]; omega
    rw [t.1, t.2, le]
    simp only [List.length_cons] at g1 g2 g3
    refine ⟨fun _ => ⟨by omega, by omega, by omega, fun z => ?_, fun z => ?_⟩, fun z => by omega⟩
    · rw [o94]
      refine ⟨by omega, ?_⟩
      refine r_qDrops (h := og_up h2 1000 94 (o2 - 1)) (c := c2) (stM_fr s3 (fun i k hi => by unfold og_up; exact if_neg (by omega))) (cdM_fr d2 (fun i k hi => by unfold og_up; exact if_neg (by omega))) (by omega) (g4 v List.mem_cons_self z) (fun h3 s4 c4 f4 => og_nx_mk (by omega) ⟨rfl, _, V2, o2 - 1, by rw [e, eP_hi z], ⟨by omega, by rw [List.length_append]; simp; omega, by omega, fun x hx => g4 x (List.mem_cons_of_mem _ hx)⟩, s4, c4, by rw [f4 _ _ (by decide) (by decide), og_up_eq], fun i k hi hk => ?_⟩)
      rw [f4 i k hi (by omega)]
      unfold og_up
      rw [if_neg (by omega)]
      exact f2 i k hi hk
    · exact hK h2 c2 (v :: V2) o2 (by rw [e, eP_lo (by omega)]) s2 d2 o94 f2
theorem r_qEndsPartF (h5 : h 1000 5 ≠ 0) (hK : K 0 h) : m_Model_qEndsPart [1000] h K := by
  unfold m_Model_qEndsPart
  simp -implicitDefEqProofs only [↓dn_den, ↓dn_loc, ↓dn_k, ↓dn_add, ↓dn_sub, ↓dn_mul, ↓dn_div, ↓dn_rem, ↓dn_bop, ↓dn_ladd, ↓dn_lsub, ↓dn_lmul, ↓dn_ldiv, ↓dn_lrem, ↓dn_land, ↓dn_l2i, ↓dn_neg, ↓dn_get, ↓dn_fix, ↓dn_ald, ↓dn_gld, ↓dn_yld, ↓dn_len, ↓dn_gln, ↓dn_cc, ↓dn_cb, ↓dn_and, ↓dn_or, ↓dn_not, ↓dn_cite, ↓dn_ec, ↓dn_ei, ↓dn_skip, ↓dn_seq, ↓dn_set, ↓dn_inc, ↓dn_putf, ↓dn_putz, ↓dn_ast, ↓dn_exp, ↓dn_if, ↓dn_ret, ↓dn_retz, ↓dn_retv, ↓dn_brk, ↓dn_cont, ↓dn_cs, ↓dn_sw, ↓dn_pop32, ↓dn_pop64, ↓dn_aop, ↓dn_call, ↓dn_max, ↓dn_min, ↓dn_acp, ↓dn_i2l, ↓dn_args0, ↓dn_args1, og_pad, og_ent, og_rlt, og_rle, og_rgt, og_rge, og_req, og_rne, og_padd, og_psub, og_pmul, List.getD_cons_zero, List.getD_cons_succ, List.set_cons_zero, List.set_cons_succ, List.length_cons, List.length_nil, List.cons_append, List.nil_append, List.replicate, List.append_nil, Nat.reduceAdd, Nat.reduceSub, Nat.reduceEqDiff, if_true, if_false, reduceIte, Int.reduceAdd, Int.reduceSub, Int.reduceMul, Int.reduceNeg, Int.reduceLT, Int.reduceLE, Int.cast_ofNat_Int, true_or, or_true, true_and, and_true, false_and, List.mem_cons, List.not_mem_nil, or_false, false_or, ne_eq]
  refine og_loop 0 (fun i e2 h2 => e2 = [1000] ∧ h2 = h) ⟨rfl, rfl⟩ ?_
  rintro i e2 h2 hi ⟨rfl, rfl⟩
  simp -implicitDefEqProofs only [↓dn_den, ↓dn_loc, ↓dn_k, ↓dn_add, ↓dn_sub, ↓dn_mul, ↓dn_div, ↓dn_rem, ↓dn_bop, ↓dn_ladd, ↓dn_lsub, ↓dn_lmul, ↓dn_ldiv, ↓dn_lrem, ↓dn_land, ↓dn_l2i, ↓dn_neg, ↓dn_get, ↓dn_fix, ↓dn_ald, ↓dn_gld, ↓dn_yld, ↓dn_len, ↓dn_gln, ↓dn_cc, ↓dn_cb, ↓dn_and, ↓dn_or, ↓dn_not, ↓dn_cite, ↓dn_ec, ↓dn_ei, ↓dn_skip, ↓dn_seq, ↓dn_set, ↓dn_inc, ↓dn_putf, ↓dn_putz, ↓dn_ast, ↓dn_exp, ↓dn_if, ↓dn_ret, ↓dn_retz, ↓dn_retv, ↓dn_brk, ↓dn_cont, ↓dn_cs, ↓dn_sw, ↓dn_pop32, ↓dn_pop64, ↓dn_aop, ↓dn_call, ↓dn_max, ↓dn_min, ↓dn_acp, ↓dn_i2l, ↓dn_args0, ↓dn_args1, og_pad, og_ent, og_rlt, og_rle, og_rgt, og_rge, og_req, og_rne, og_padd, og_psub, og_pmul, List.getD_cons_zero, List.getD_cons_succ, List.set_cons_zero, List.set_cons_succ, List.length_cons, List.length_nil, List.cons_append, List.nil_append, List.replicate, List.append_nil, Nat.reduceAdd, Nat.reduceSub, Nat.reduceEqDiff, if_true, if_false, reduceIte, Int.reduceAdd, Int.reduceSub, Int.reduceMul, Int.reduceNeg, Int.reduceLT, Int.reduceLE, Int.cast_ofNat_Int, true_or, or_true, true_and, and_true, false_and, List.mem_cons, List.not_mem_nil, or_false, false_or, ne_eq]
  exact ⟨fun z => absurd z h5, fun _ => hK⟩
end
end
