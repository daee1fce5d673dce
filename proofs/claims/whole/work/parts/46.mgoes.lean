-- a month of the reference
theorem okK_come1 {P : Pr} {A : Yd} {p : Int} (ho : okY A) (hk : okK A) (hp0 : 0 ≤ p) (hp1 : p < A 0 1) : okK (sCome1 P A p) := by
  unfold sCome1
  split
  · rename_i h; exact okK_bury ho hk hp0 hp1 h.1
  · exact hk
theorem okK_come {P : Pr} {A : Yd} (ho : okY A) (hk : okK A) : ∀ {n : Nat}, (n : Int) ≤ A 0 1 → okK (sCome P A n)
  | 0, _ => hk
  | n + 1, hn => by
    have sb := sameB_come (P := P) (A := A) (n := n)
    exact okK_come1 (okY_come ho (by omega)) (okK_come ho hk (by omega)) (by omega) (by rw [sb.2.1]; omega)
theorem okK_same {A B : Yd} (hk : okK A) (h : ∀ c k, c = 0 ∨ c = 8 → B c k = A c k) : okK B := by
  have e1 : sNp B = sNp A := sNp_eq (h 0 1 (Or.inl rfl))
  have e2 : sLive B = sLive A := by funext p; unfold sLive; rw [h 8 p (Or.inr rfl)]
  unfold okK at hk ⊢
  rw [e1, e2, h 0 3 (Or.inl rfl), h 0 1 (Or.inl rfl)]
  exact hk
theorem okK_near {A : Yd} (hk : okK A) {n : Nat} : okK (sNear A n) := okK_same hk (fun c k hc => sameD_near c k (by omega))
theorem okK_heart {P : Pr} {t : Int} {A : Yd} (hk : okK A) {n : Nat} : okK (sHeart P t A n) := okK_same hk (fun c k hc => sameC_heart c k (by omega))
theorem okK_old {A : Yd} (hk : okK A) {n : Nat} : okK (sOld A n) := okK_same hk (fun c k hc => sameC_old c k (by omega))
theorem okK_take1 {W : Int → Int} {A : Yd} {g : Int} (ho : okY A) (hk : okK A) : okK (sTake1 W A g) := by
  unfold sTake1
  split
  · rename_i h
    have hr := sHeavy_rg W A g (sNp A)
    have hz : sHeavy W A g (sNp A) ≠ -1 := by unfold sTakes at h; simp at h; exact h.2
    have h6 := ho.1
    have hnp : sNp A = (A 0 1).toNat := rfl
    exact okK_bury ho hk (by omega) (by omega) (hr.2 hz).1
  · exact hk
theorem okK_take {W : Int → Int} {A : Yd} (ho : okY A) (hk : okK A) : ∀ {n : Nat}, okK (sTake W A n).1
  | 0 => hk
  | n + 1 => by rw [sTake_s]; exact okK_take1 (okY_take ho) (okK_take ho hk)
theorem okK_tk {P : Pr} {A : Yd} (ho : okY A) (hk : okK A) : okK (sTk P A).1 := okK_take (okY_near (okY_come ho (by have := ho.1; unfold sNp; omega))) (okK_near (okK_come ho hk (by have := ho.1; unfold sNp; omega)))
theorem okK_age {P : Pr} {A : Yd} (ho : okY A) (hk : okK A) : okK (sAge P A) := by
  unfold sAge
  have h1 : okK (sHt P A) := okK_heart (okK_tk ho hk)
  split
  · exact okK_old h1
  · exact h1
theorem okK_pass {P : Pr} {A : Yd} (ho : okY A) (hk : okK A) : okK (sPass P A) := by
  have h := okK_age (P := P) ho hk
  unfold sPass
  have z : ∀ c k', ¬ (c = 0 ∧ k' = 2) → sUp (sAge P A) 0 2 (A 0 2 + 1) c k' = (sAge P A) c k' := fun c k' hk => by unfold sUp; exact if_neg hk
  have e1 : sNp (sUp (sAge P A) 0 2 (A 0 2 + 1)) = sNp (sAge P A) := sNp_eq (z 0 1 (by decide))
  have e2 : sLive (sUp (sAge P A) 0 2 (A 0 2 + 1)) = sLive (sAge P A) := by funext p; unfold sLive; rw [z 8 p (by omega)]
  unfold okK at h ⊢
  rw [e1, e2, z 0 3 (by decide), z 0 1 (by decide)]
  exact h
-- writing one number of the reference's yard
theorem isN_upG {h : Hp} {A : Yd} {c k v : Int} (hc : c = 2 ∨ c = 3 ∨ c = 4) (ho : okY A) (hk0 : 0 ≤ k) (hk1 : k < A 0 0) (hn : isN h A) : isN (og_up h 1037 (c - 1 + 3 * k) v) (sUp A c k v) := by
  have h6 := ho.1
  obtain ⟨⟨m1, m2, m3⟩, m4⟩ := hn
  have z : ∀ c' k', c' ≠ c → sUp A c k v c' k' = A c' k' := fun c' k' q => sUp_c q
  refine ⟨⟨⟨?_, ?_, ?_⟩, fun k' k0 k1 => ?_, fun k' k0 k1 => ?_⟩, fun q => ⟨?_, fun k' k0 k1 => ?_⟩⟩
  · rw [og_up_i (by decide), z _ _ (by omega)]; exact m1.1
  · rw [og_up_i (by decide), z _ _ (by omega)]; exact m1.2.1
  · rw [og_up_k (by omega), z _ _ (by omega)]; exact m1.2.2
  · rw [z _ _ (by omega)] at k1
    have := m2 k' k0 k1
    simp only [og_up, sUp]
    grind
  · rw [z _ _ (by omega)] at k1
    have := m3 k' k0 k1
    simp only [og_up, sUp]
    grind
  · rw [og_up_i (by decide)] at q
    rw [og_up_k (by omega), z _ _ (by omega)]; exact (m4 q).1
  · rw [og_up_i (by decide)] at q
    rw [z _ _ (by omega)] at k1
    rw [og_up_k (by omega), z _ _ (by omega)]; exact (m4 q).2 k' k0 k1
theorem isN_upP {h : Hp} {A : Yd} {c d k v : Int} (hc : (c = 6 ∧ d = 20) ∨ (c = 7 ∧ d = 21) ∨ (c = 8 ∧ d = 19)) (ho : okY A) (hk0 : 0 ≤ k) (hk1 : k < A 0 1) (hn : isN h A) : isN (og_up h 1037 (d + 3 * k) v) (sUp A c k v) := by
  have h6 := ho.1
  obtain ⟨⟨m1, m2, m3⟩, m4⟩ := hn
  have z : ∀ c' k', c' ≠ c → sUp A c k v c' k' = A c' k' := fun c' k' q => sUp_c q
  refine ⟨⟨⟨?_, ?_, ?_⟩, fun k' k0 k1 => ?_, fun k' k0 k1 => ?_⟩, fun q => ⟨?_, fun k' k0 k1 => ?_⟩⟩
  · rw [og_up_i (by decide), z _ _ (by omega)]; exact m1.1
  · rw [og_up_i (by decide), z _ _ (by omega)]; exact m1.2.1
  · rw [og_up_k (by omega), z _ _ (by omega)]; exact m1.2.2
  · rw [z _ _ (by omega)] at k1
    have := m2 k' k0 k1
    simp only [og_up, sUp]
    grind
  · rw [z _ _ (by omega)] at k1
    have := m3 k' k0 k1
    simp only [og_up, sUp]
    grind
  · rw [og_up_i (by decide)] at q
    rw [og_up_k (by omega), z _ _ (by omega)]; exact (m4 q).1
  · rw [og_up_i (by decide)] at q
    rw [z _ _ (by omega)] at k1
    rw [og_up_k (by omega), z _ _ (by omega)]; exact (m4 q).2 k' k0 k1
theorem isN_up0 {h : Hp} {A : Yd} {v : Int} (ho : okY A) (hn : isN h A) : isN (og_up h 1037 0 v) (sUp A 0 2 v) := by
  have h6 := ho.1
  obtain ⟨⟨m1, m2, m3⟩, m4⟩ := hn
  have z : ∀ c' k', ¬ (c' = 0 ∧ k' = 2) → sUp A 0 2 v c' k' = A c' k' := fun c' k' hk => by unfold sUp; exact if_neg hk
  refine ⟨⟨⟨?_, ?_, ?_⟩, fun k' k0 k1 => ?_, fun k' k0 k1 => ?_⟩, fun q => ⟨?_, fun k' k0 k1 => ?_⟩⟩
  · rw [og_up_i (by decide), z _ _ (by omega)]; exact m1.1
  · rw [og_up_i (by decide), z _ _ (by omega)]; exact m1.2.1
  · rw [og_up_eq, sUp_eq]
  · rw [z _ _ (by omega)] at k1
    have := m2 k' k0 k1
    rw [og_up_i (by decide), og_up_k (by omega), og_up_k (by omega), og_up_k (by omega), z _ _ (by omega), z _ _ (by omega), z _ _ (by omega), z _ _ (by omega)]
    exact this
  · rw [z _ _ (by omega)] at k1
    have := m3 k' k0 k1
    rw [og_up_i (by decide), og_up_k (by omega), og_up_k (by omega), og_up_k (by omega), z _ _ (by omega), z _ _ (by omega), z _ _ (by omega), z _ _ (by omega)]
    exact this
  · rw [og_up_i (by decide)] at q
    rw [og_up_k (by omega), z _ _ (by omega)]; exact (m4 q).1
  · rw [og_up_i (by decide)] at q
    rw [z _ _ (by omega)] at k1
    rw [og_up_k (by omega), z _ _ (by omega)]; exact (m4 q).2 k' k0 k1
theorem frM_up {h h' : Hp} {k v : Int} (hf : frM h h') (hk : k < 43) : frM h (og_up h' 1037 k v) := ⟨fun i k' a b c => by rw [og_up_i a]; exact hf.1 i k' a b c, fun z k' hk' => by rw [og_up_k (by omega)]; exact hf.2 z k' hk'⟩
theorem isN_O {h : Hp} {A : Yd} {k v : Int} (hn : isN h A) (hk : k ≠ 53) : isN (og_up h 1000 k v) A := by
  have e : ∀ i k', i ≠ 1000 → og_up h 1000 k v i k' = h i k' := fun i k' hi => og_up_i hi
  refine ⟨isM_fr hn.1 (fun i k hi => e i k (by omega)), fun z => ?_⟩
  rw [og_up_k (fun q => hk q.symm)] at z
  have m := hn.2 z
  exact ⟨by rw [e _ _ (by decide)]; exact m.1, fun k k0 k1 => by rw [e _ _ (by decide)]; exact m.2 k k0 k1⟩
theorem frM_O {h h' : Hp} {k v : Int} (hf : frM h h') (hk : k = 52 ∨ k = 54 ∨ k = 48 ∨ k = 51 ∨ k = 97) : frM h (og_up h' 1000 k v) := ⟨fun i k' a b c => by
    by_cases e : i = 1000
    · rw [og_up_k (by have := c e; omega)]; exact hf.1 i k' a b c
    · rw [og_up_i e]; exact hf.1 i k' a b c, fun z k' hk' => by rw [og_up_i (by decide)]; exact hf.2 z k' hk'⟩
theorem sUp_self {A : Yd} {c k v : Int} (h : v = A c k) : sUp A c k v = A := by
  funext c' k'
  unfold sUp
  split
  · rename_i q; rw [q.1, q.2, h]
  · rfl
theorem sNear_s (A : Yd) (n : Nat) : sNear A (n + 1) = sNear1 (sNear A n) n := rfl
theorem sCome_s (P : Pr) (A : Yd) (n : Nat) : sCome P A (n + 1) = sCome1 P (sCome P A n) n := rfl
section
variable {h : Hp} {A : Yd} {P : Pr} {K : Int → Hp → Prop}
theorem ageB {h : Hp} {A C : Yd} {B : Nat → Yd} {i : Nat} (hy : (A 0 2) % 12 = 11) (hn : isN h (B i)) : isN h ((fun i => if (A 0 2) % 12 = 11 then B i else C) i) := by
  show isN h (if (A 0 2) % 12 = 11 then B i else C)
  rw [if_pos hy]; exact hn
theorem ageC {h : Hp} {A C : Yd} {B : Nat → Yd} {i : Nat} (hy : ¬ (A 0 2) % 12 = 11) (hn : isN h C) : isN h ((fun i => if (A 0 2) % 12 = 11 then B i else C) i) := by
  show isN h (if (A 0 2) % 12 = 11 then B i else C)
  rw [if_neg hy]; exact hn
def goJ (h : Hp) (B : Nat → Yd) (t m : Int) (i : Nat) (e1 : List Int) (h1 : Hp) : Prop := e1 = [1000, (i : Int)] ∧ isN h1 (B i) ∧ frM h h1 ∧ h1 1000 52 = t ∧ h1 1000 54 = m
theorem r_heart {p t : Int} (hR : hasM h P) (hP : okQ P) (hm : isM h A) (ho : okV A p) (ht : 0 ≤ t ∧ t ≤ 100) (h52 : h 1000 52 = t) (htold : isRT h 3 (P 11)) (hK : ∀ h', frE h h' → K (sVal (P 11) A p t) h') : m_Model_codesTell [1000, 3, p] h K := by
  obtain ⟨u, hu, -⟩ := hP.1 11 (by decide) (by decide)
  have hq := hP.2 11 (by decide) (by decide)
  exact r_codesTell (cnt := t) (by decide) htold hm ho ht ⟨fun z => absurd z (hq.1 (by decide)), fun _ => h52.symm⟩ hu hK
theorem r_monthGoes (hR : hasM h P) (hP : okQ P) (hn : isN h A) (ho : okY A) (hk : okK A) (hm : A 0 2 < 2000) (ht : 0 ≤ h 1000 54 ∧ h 1000 54 ≤ 100000000)
    (hK : ∀ h', isN h' (sPass P A) → frM h h' → h' 1000 54 = h 1000 54 + (sTk P A).2 → K 0 h') : m_Model_monthGoes [1000] h K := by
  have h6 := ho.1
  have hnp : sNp A = (A 0 1).toNat := rfl
  have hng : sNg A = (A 0 0).toNat := rfl
  have b1 := sameB_come (P := P) (A := A) (n := sNp A)
  have o1 : okY (sCome P A (sNp A)) := okY_come ho (by omega)
  have k1 : okK (sCome P A (sNp A)) := okK_come ho hk (by omega)
  have o2 : okY (sNear (sCome P A (sNp A)) (sNg A)) := okY_near o1
  have k2 : okK (sNear (sCome P A (sNp A)) (sNg A)) := okK_near k1
  have d2 := sameD_near (A := sCome P A (sNp A)) (n := sNg A)
  have e20 : sNear (sCome P A (sNp A)) (sNg A) 0 0 = A 0 0 := (d2 0 0 (by decide)).trans b1.1
  have e21 : sNear (sCome P A (sNp A)) (sNg A) 0 1 = A 0 1 := (d2 0 1 (by decide)).trans b1.2.1
  have o3 := okY_tk (P := P) ho
  have k3 := okK_tk (P := P) ho hk
  have sc := tk_sc (P := P) (A := A)
  have tr : 0 ≤ (sTk P A).2 ∧ (sTk P A).2 ≤ sNg A := sTake_rg (W := fun p => sVal (P 10) (sNear (sCome P A (sNp A)) (sNg A)) p 0) (A := sNear (sCome P A (sNp A)) (sNg A)) (n := sNg A)
  unfold m_Model_monthGoes
  simp -implicitDefEqProofs only [↓dn_den, ↓dn_loc, ↓dn_k, ↓dn_add, ↓dn_sub, ↓dn_mul, ↓dn_div, ↓dn_rem, ↓dn_bop, ↓dn_ladd, ↓dn_lsub, ↓dn_lmul, ↓dn_ldiv, ↓dn_lrem, ↓dn_land, ↓dn_l2i, ↓dn_neg, ↓dn_get, ↓dn_fix, ↓dn_ald, ↓dn_gld, ↓dn_yld, ↓dn_len, ↓dn_gln, ↓dn_cc, ↓dn_cb, ↓dn_and, ↓dn_or, ↓dn_not, ↓dn_cite, ↓dn_ec, ↓dn_ei, ↓dn_skip, ↓dn_seq, ↓dn_set, ↓dn_inc, ↓dn_putf, ↓dn_putz, ↓dn_ast, ↓dn_exp, ↓dn_if, ↓dn_ret, ↓dn_retz, ↓dn_retv, ↓dn_brk, ↓dn_cont, ↓dn_cs, ↓dn_sw, ↓dn_pop32, ↓dn_pop64, ↓dn_aop, ↓dn_call, ↓dn_max, ↓dn_min, ↓dn_acp, ↓dn_i2l, ↓dn_args0, ↓dn_args1, og_pad, og_ent, og_rlt, og_rle, og_rgt, og_rge, og_req, og_rne, og_padd, og_psub, og_pmul, List.getD_cons_zero, List.getD_cons_succ, List.set_cons_zero, List.set_cons_succ, List.length_cons, List.length_nil, List.cons_append, List.nil_append, List.replicate, List.append_nil, Nat.reduceAdd, Nat.reduceSub, Nat.reduceEqDiff, if_true, if_false, reduceIte, Int.reduceAdd, Int.reduceSub, Int.reduceMul, Int.reduceNeg, Int.reduceLT, Int.reduceLE, Int.cast_ofNat_Int, true_or, or_true, true_and, and_true, false_and, List.mem_cons, List.not_mem_nil, or_false, false_or, ne_eq]
  refine ⟨goJ h (sCome P A) (h 1000 52) (h 1000 54) (sNp A), ?_, ?_⟩
  · simp -implicitDefEqProofs only [↓dn_den, ↓dn_loc, ↓dn_k, ↓dn_add, ↓dn_sub, ↓dn_mul, ↓dn_div, ↓dn_rem, ↓dn_bop, ↓dn_ladd, ↓dn_lsub, ↓dn_lmul, ↓dn_ldiv, ↓dn_lrem, ↓dn_land, ↓dn_l2i, ↓dn_neg, ↓dn_get, ↓dn_fix, ↓dn_ald, ↓dn_gld, ↓dn_yld, ↓dn_len, ↓dn_gln, ↓dn_cc, ↓dn_cb, ↓dn_and, ↓dn_or, ↓dn_not, ↓dn_cite, ↓dn_ec, ↓dn_ei, ↓dn_skip, ↓dn_seq, ↓dn_set, ↓dn_inc, ↓dn_putf, ↓dn_putz, ↓dn_ast, ↓dn_exp, ↓dn_if, ↓dn_ret, ↓dn_retz, ↓dn_retv, ↓dn_brk, ↓dn_cont, ↓dn_cs, ↓dn_sw, ↓dn_pop32, ↓dn_pop64, ↓dn_aop, ↓dn_call, ↓dn_max, ↓dn_min, ↓dn_acp, ↓dn_i2l, ↓dn_args0, ↓dn_args1, og_pad, og_ent, og_rlt, og_rle, og_rgt, og_rge, og_req, og_rne, og_padd, og_psub, og_pmul, List.getD_cons_zero, List.getD_cons_succ, List.set_cons_zero, List.set_cons_succ, List.length_cons, List.length_nil, List.cons_append, List.nil_append, List.replicate, List.append_nil, Nat.reduceAdd, Nat.reduceSub, Nat.reduceEqDiff, if_true, if_false, reduceIte, Int.reduceAdd, Int.reduceSub, Int.reduceMul, Int.reduceNeg, Int.reduceLT, Int.reduceLE, Int.cast_ofNat_Int, true_or, or_true, true_and, and_true, false_and, List.mem_cons, List.not_mem_nil, or_false, false_or, ne_eq]
    refine og_loop (sNp A) (goJ h (sCome P A) (h 1000 52) (h 1000 54)) ⟨rfl, hn, frM_rf, rfl, rfl⟩ ?_
    rintro i e1 h1 hi ⟨rfl, hN, hF, q52, q54⟩
    simp -implicitDefEqProofs only [↓dn_den, ↓dn_loc, ↓dn_k, ↓dn_add, ↓dn_sub, ↓dn_mul, ↓dn_div, ↓dn_rem, ↓dn_bop, ↓dn_ladd, ↓dn_lsub, ↓dn_lmul, ↓dn_ldiv, ↓dn_lrem, ↓dn_land, ↓dn_l2i, ↓dn_neg, ↓dn_get, ↓dn_fix, ↓dn_ald, ↓dn_gld, ↓dn_yld, ↓dn_len, ↓dn_gln, ↓dn_cc, ↓dn_cb, ↓dn_and, ↓dn_or, ↓dn_not, ↓dn_cite, ↓dn_ec, ↓dn_ei, ↓dn_skip, ↓dn_seq, ↓dn_set, ↓dn_inc, ↓dn_putf, ↓dn_putz, ↓dn_ast, ↓dn_exp, ↓dn_if, ↓dn_ret, ↓dn_retz, ↓dn_retv, ↓dn_brk, ↓dn_cont, ↓dn_cs, ↓dn_sw, ↓dn_pop32, ↓dn_pop64, ↓dn_aop, ↓dn_call, ↓dn_max, ↓dn_min, ↓dn_acp, ↓dn_i2l, ↓dn_args0, ↓dn_args1, og_pad, og_ent, og_rlt, og_rle, og_rgt, og_rge, og_req, og_rne, og_padd, og_psub, og_pmul, List.getD_cons_zero, List.getD_cons_succ, List.set_cons_zero, List.set_cons_succ, List.length_cons, List.length_nil, List.cons_append, List.nil_append, List.replicate, List.append_nil, Nat.reduceAdd, Nat.reduceSub, Nat.reduceEqDiff, if_true, if_false, reduceIte, Int.reduceAdd, Int.reduceSub, Int.reduceMul, Int.reduceNeg, Int.reduceLT, Int.reduceLE, Int.cast_ofNat_Int, true_or, or_true, true_and, and_true, false_and, List.mem_cons, List.not_mem_nil, or_false, false_or, ne_eq, og_i32]
    have sb := sameB_come (P := P) (A := A) (n := i)
    apply r_personMany hN.1
    rw [sb.2.1]
    refine ⟨fun hlt => ?_, fun hge => ?_⟩
    · refine r_comes (hasM_M hR hF) hP hN (okY_come ho (by omega)) (okK_come ho hk (by omega)) (by omega) (by rw [sb.2.1]; omega) (fun h2 hN2 hF2 a b => ?_)
      exact ⟨by omega, og_nx_mk (by omega) ⟨by simp, hN2, frM_tr hF hF2, a.trans q52, b.trans q54⟩⟩
    · have e : i = sNp A := by omega
      subst e
      exact ⟨rfl, hN, hF, q52, q54⟩
  rintro e1 h1 ⟨rfl, hN1, hF1, q52, q54⟩
  refine ⟨goJ h (sNear (sCome P A (sNp A))) (h 1000 52) (h 1000 54) (sNg A), ?_, ?_⟩
  · simp -implicitDefEqProofs only [↓dn_den, ↓dn_loc, ↓dn_k, ↓dn_add, ↓dn_sub, ↓dn_mul, ↓dn_div, ↓dn_rem, ↓dn_bop, ↓dn_ladd, ↓dn_lsub, ↓dn_lmul, ↓dn_ldiv, ↓dn_lrem, ↓dn_land, ↓dn_l2i, ↓dn_neg, ↓dn_get, ↓dn_fix, ↓dn_ald, ↓dn_gld, ↓dn_yld, ↓dn_len, ↓dn_gln, ↓dn_cc, ↓dn_cb, ↓dn_and, ↓dn_or, ↓dn_not, ↓dn_cite, ↓dn_ec, ↓dn_ei, ↓dn_skip, ↓dn_seq, ↓dn_set, ↓dn_inc, ↓dn_putf, ↓dn_putz, ↓dn_ast, ↓dn_exp, ↓dn_if, ↓dn_ret, ↓dn_retz, ↓dn_retv, ↓dn_brk, ↓dn_cont, ↓dn_cs, ↓dn_sw, ↓dn_pop32, ↓dn_pop64, ↓dn_aop, ↓dn_call, ↓dn_max, ↓dn_min, ↓dn_acp, ↓dn_i2l, ↓dn_args0, ↓dn_args1, og_pad, og_ent, og_rlt, og_rle, og_rgt, og_rge, og_req, og_rne, og_padd, og_psub, og_pmul, List.getD_cons_zero, List.getD_cons_succ, List.set_cons_zero, List.set_cons_succ, List.length_cons, List.length_nil, List.cons_append, List.nil_append, List.replicate, List.append_nil, Nat.reduceAdd, Nat.reduceSub, Nat.reduceEqDiff, if_true, if_false, reduceIte, Int.reduceAdd, Int.reduceSub, Int.reduceMul, Int.reduceNeg, Int.reduceLT, Int.reduceLE, Int.cast_ofNat_Int, true_or, or_true, true_and, and_true, false_and, List.mem_cons, List.not_mem_nil, or_false, false_or, ne_eq]
    refine og_loop (sNg A) (goJ h (sNear (sCome P A (sNp A))) (h 1000 52) (h 1000 54)) ⟨rfl, hN1, hF1, q52, q54⟩ ?_
    rintro i e1 h2 hi ⟨rfl, hN, hF, q52, q54⟩
    simp -implicitDefEqProofs only [↓dn_den, ↓dn_loc, ↓dn_k, ↓dn_add, ↓dn_sub, ↓dn_mul, ↓dn_div, ↓dn_rem, ↓dn_bop, ↓dn_ladd, ↓dn_lsub, ↓dn_lmul, ↓dn_ldiv, ↓dn_lrem, ↓dn_land, ↓dn_l2i, ↓dn_neg, ↓dn_get, ↓dn_fix, ↓dn_ald, ↓dn_gld, ↓dn_yld, ↓dn_len, ↓dn_gln, ↓dn_cc, ↓dn_cb, ↓dn_and, ↓dn_or, ↓dn_not, ↓dn_cite, ↓dn_ec, ↓dn_ei, ↓dn_skip, ↓dn_seq, ↓dn_set, ↓dn_inc, ↓dn_putf, ↓dn_putz, ↓dn_ast, ↓dn_exp, ↓dn_if, ↓dn_ret, ↓dn_retz, ↓dn_retv, ↓dn_brk, ↓dn_cont, ↓dn_cs, ↓dn_sw, ↓dn_pop32, ↓dn_pop64, ↓dn_aop, ↓dn_call, ↓dn_max, ↓dn_min, ↓dn_acp, ↓dn_i2l, ↓dn_args0, ↓dn_args1, og_pad, og_ent, og_rlt, og_rle, og_rgt, og_rge, og_req, og_rne, og_padd, og_psub, og_pmul, List.getD_cons_zero, List.getD_cons_succ, List.set_cons_zero, List.set_cons_succ, List.length_cons, List.length_nil, List.cons_append, List.nil_append, List.replicate, List.append_nil, Nat.reduceAdd, Nat.reduceSub, Nat.reduceEqDiff, if_true, if_false, reduceIte, Int.reduceAdd, Int.reduceSub, Int.reduceMul, Int.reduceNeg, Int.reduceLT, Int.reduceLE, Int.cast_ofNat_Int, true_or, or_true, true_and, and_true, false_and, List.mem_cons, List.not_mem_nil, or_false, false_or, ne_eq, og_i32]
    have sd := sameD_near (A := sCome P A (sNp A)) (n := i)
    have oi : okY (sNear (sCome P A (sNp A)) i) := okY_near o1
    have ei : sNear (sCome P A (sNp A)) i 0 0 = A 0 0 := (sd 0 0 (by decide)).trans b1.1
    apply r_graveMany hN.1
    rw [ei]
    refine ⟨fun hlt => ?_, fun hge => ?_⟩
    · apply r_doesAsk hN.1 oi (by omega) (by omega)
      have od := oi.2.1 i (by omega) (by omega)
      refine ⟨fun hx => ?_, fun hx => ?_⟩
      · have ha := ite10 hx
        apply r_dueOf hN.1 oi (by omega) (by omega)
        refine ⟨fun hd => ?_, fun hd => ?_⟩
        · have ev := (hN.1.2.1 i (by omega) (by omega)).2.2.1
          rw [ev]
          refine ⟨by omega, by omega, by omega, by omega, by omega, by omega, og_nx_mk (by omega) ⟨by simp, ?_, frM_up hF (by omega), ?_, ?_⟩⟩
          · rw [sNear_s]; unfold sNear1; rw [if_pos ha]
            have e : max 0 (sNear (sCome P A (sNp A)) i 3 i - 1) = sNear (sCome P A (sNp A)) i 3 i - 1 := by omega
            rw [e]
            exact isN_upG (c := 3) (by omega) oi (by omega) (by omega) hN
          · rw [og_up_i (by decide)]; exact q52
          · rw [og_up_i (by decide)]; exact q54
        · refine ⟨by omega, og_nx_mk (by omega) ⟨by simp, ?_, hF, q52, q54⟩⟩
          rw [sNear_s]; unfold sNear1; rw [if_pos ha, sUp_self (by omega)]
          exact hN
      · refine ⟨by omega, og_nx_mk (by omega) ⟨by simp, ?_, hF, q52, q54⟩⟩
        rw [sNear_s]; unfold sNear1; rw [if_neg (by rw [ite00 hx]; decide)]
        exact hN
    · have e : i = sNg A := by omega
      subst e
      exact ⟨rfl, hN, hF, q52, q54⟩
  rintro e1 h2 ⟨rfl, hN2, hF2, q52, q54⟩
  simp -implicitDefEqProofs only [↓dn_den, ↓dn_loc, ↓dn_k, ↓dn_add, ↓dn_sub, ↓dn_mul, ↓dn_div, ↓dn_rem, ↓dn_bop, ↓dn_ladd, ↓dn_lsub, ↓dn_lmul, ↓dn_ldiv, ↓dn_lrem, ↓dn_land, ↓dn_l2i, ↓dn_neg, ↓dn_get, ↓dn_fix, ↓dn_ald, ↓dn_gld, ↓dn_yld, ↓dn_len, ↓dn_gln, ↓dn_cc, ↓dn_cb, ↓dn_and, ↓dn_or, ↓dn_not, ↓dn_cite, ↓dn_ec, ↓dn_ei, ↓dn_skip, ↓dn_seq, ↓dn_set, ↓dn_inc, ↓dn_putf, ↓dn_putz, ↓dn_ast, ↓dn_exp, ↓dn_if, ↓dn_ret, ↓dn_retz, ↓dn_retv, ↓dn_brk, ↓dn_cont, ↓dn_cs, ↓dn_sw, ↓dn_pop32, ↓dn_pop64, ↓dn_aop, ↓dn_call, ↓dn_max, ↓dn_min, ↓dn_acp, ↓dn_i2l, ↓dn_args0, ↓dn_args1, og_pad, og_ent, og_rlt, og_rle, og_rgt, og_rge, og_req, og_rne, og_padd, og_psub, og_pmul, List.getD_cons_zero, List.getD_cons_succ, List.set_cons_zero, List.set_cons_succ, List.length_cons, List.length_nil, List.cons_append, List.nil_append, List.replicate, List.append_nil, Nat.reduceAdd, Nat.reduceSub, Nat.reduceEqDiff, if_true, if_false, reduceIte, Int.reduceAdd, Int.reduceSub, Int.reduceMul, Int.reduceNeg, Int.reduceLT, Int.reduceLE, Int.cast_ofNat_Int, true_or, or_true, true_and, and_true, false_and, List.mem_cons, List.not_mem_nil, or_false, false_or, ne_eq]
  let W : Int → Int := fun p => sVal (P 10) (sNear (sCome P A (sNp A)) (sNg A)) p 0
  have hWd : W = fun p => sVal (P 10) (sNear (sCome P A (sNp A)) (sNg A)) p 0 := rfl
  refine ⟨fun e3 h3 => e3 = [1000, (sNg A : Int)] ∧ isN h3 (sTk P A).1 ∧ frM h h3 ∧ h3 1000 52 = (sTk P A).2 ∧ h3 1000 54 = h 1000 54, ?_, ?_⟩
  · simp -implicitDefEqProofs only [↓dn_den, ↓dn_loc, ↓dn_k, ↓dn_add, ↓dn_sub, ↓dn_mul, ↓dn_div, ↓dn_rem, ↓dn_bop, ↓dn_ladd, ↓dn_lsub, ↓dn_lmul, ↓dn_ldiv, ↓dn_lrem, ↓dn_land, ↓dn_l2i, ↓dn_neg, ↓dn_get, ↓dn_fix, ↓dn_ald, ↓dn_gld, ↓dn_yld, ↓dn_len, ↓dn_gln, ↓dn_cc, ↓dn_cb, ↓dn_and, ↓dn_or, ↓dn_not, ↓dn_cite, ↓dn_ec, ↓dn_ei, ↓dn_skip, ↓dn_seq, ↓dn_set, ↓dn_inc, ↓dn_putf, ↓dn_putz, ↓dn_ast, ↓dn_exp, ↓dn_if, ↓dn_ret, ↓dn_retz, ↓dn_retv, ↓dn_brk, ↓dn_cont, ↓dn_cs, ↓dn_sw, ↓dn_pop32, ↓dn_pop64, ↓dn_aop, ↓dn_call, ↓dn_max, ↓dn_min, ↓dn_acp, ↓dn_i2l, ↓dn_args0, ↓dn_args1, og_pad, og_ent, og_rlt, og_rle, og_rgt, og_rge, og_req, og_rne, og_padd, og_psub, og_pmul, List.getD_cons_zero, List.getD_cons_succ, List.set_cons_zero, List.set_cons_succ, List.length_cons, List.length_nil, List.cons_append, List.nil_append, List.replicate, List.append_nil, Nat.reduceAdd, Nat.reduceSub, Nat.reduceEqDiff, if_true, if_false, reduceIte, Int.reduceAdd, Int.reduceSub, Int.reduceMul, Int.reduceNeg, Int.reduceLT, Int.reduceLE, Int.cast_ofNat_Int, true_or, or_true, true_and, and_true, false_and, List.mem_cons, List.not_mem_nil, or_false, false_or, ne_eq]
    refine og_loop (sNg A) (fun i e3 h3 => e3 = [1000, (i : Int)] ∧ isN h3 (sTake W (sNear (sCome P A (sNp A)) (sNg A)) i).1 ∧ frM h h3 ∧ h3 1000 52 = (sTake W (sNear (sCome P A (sNp A)) (sNg A)) i).2 ∧ h3 1000 54 = h 1000 54) ⟨rfl, isN_O hN2 (by decide), frM_O hF2 (by decide), og_up_eq, ?_⟩ ?_
    · rw [og_up_k (by decide)]; exact q54
    rintro i e1 h3 hi ⟨rfl, hN, hF, q52, q54⟩
    simp -implicitDefEqProofs only [↓dn_den, ↓dn_loc, ↓dn_k, ↓dn_add, ↓dn_sub, ↓dn_mul, ↓dn_div, ↓dn_rem, ↓dn_bop, ↓dn_ladd, ↓dn_lsub, ↓dn_lmul, ↓dn_ldiv, ↓dn_lrem, ↓dn_land, ↓dn_l2i, ↓dn_neg, ↓dn_get, ↓dn_fix, ↓dn_ald, ↓dn_gld, ↓dn_yld, ↓dn_len, ↓dn_gln, ↓dn_cc, ↓dn_cb, ↓dn_and, ↓dn_or, ↓dn_not, ↓dn_cite, ↓dn_ec, ↓dn_ei, ↓dn_skip, ↓dn_seq, ↓dn_set, ↓dn_inc, ↓dn_putf, ↓dn_putz, ↓dn_ast, ↓dn_exp, ↓dn_if, ↓dn_ret, ↓dn_retz, ↓dn_retv, ↓dn_brk, ↓dn_cont, ↓dn_cs, ↓dn_sw, ↓dn_pop32, ↓dn_pop64, ↓dn_aop, ↓dn_call, ↓dn_max, ↓dn_min, ↓dn_acp, ↓dn_i2l, ↓dn_args0, ↓dn_args1, og_pad, og_ent, og_rlt, og_rle, og_rgt, og_rge, og_req, og_rne, og_padd, og_psub, og_pmul, List.getD_cons_zero, List.getD_cons_succ, List.set_cons_zero, List.set_cons_succ, List.length_cons, List.length_nil, List.cons_append, List.nil_append, List.replicate, List.append_nil, Nat.reduceAdd, Nat.reduceSub, Nat.reduceEqDiff, if_true, if_false, reduceIte, Int.reduceAdd, Int.reduceSub, Int.reduceMul, Int.reduceNeg, Int.reduceLT, Int.reduceLE, Int.cast_ofNat_Int, true_or, or_true, true_and, and_true, false_and, List.mem_cons, List.not_mem_nil, or_false, false_or, ne_eq, og_i32]
    have sb := sameB_take (W := W) (A := sNear (sCome P A (sNp A)) (sNg A)) (n := i)
    have rg := sTake_rg (W := W) (A := sNear (sCome P A (sNp A)) (sNg A)) (n := i)
    apply r_graveMany hN.1
    rw [sb.1, e20]
    refine ⟨fun hlt => ?_, fun hge => ?_⟩
    · refine r_graveTakes (W := W) (hasM_M hR hF) hP hN (okY_take o2) (okK_take o2 k2) (by omega) (by rw [sb.1, e20]; exact hlt) (fun p _ _ => ?_) (by omega) (fun h4 hN4 hF4 a b => ?_)
      · exact (sVal_same sb (hP.2 10 (by decide) (by decide)).2.2).symm
      · refine ⟨by omega, og_nx_mk (by omega) ⟨by simp, hN4, frM_tr hF hF4, ?_, b.trans q54⟩⟩
        rw [a, q52, sTake_s]
    · have e : i = sNg A := by omega
      subst e
      exact ⟨rfl, hN, hF, q52, q54⟩
  rintro e1 h3 ⟨rfl, hN3, hF3, q52, q54⟩
  simp -implicitDefEqProofs only [↓dn_den, ↓dn_loc, ↓dn_k, ↓dn_add, ↓dn_sub, ↓dn_mul, ↓dn_div, ↓dn_rem, ↓dn_bop, ↓dn_ladd, ↓dn_lsub, ↓dn_lmul, ↓dn_ldiv, ↓dn_lrem, ↓dn_land, ↓dn_l2i, ↓dn_neg, ↓dn_get, ↓dn_fix, ↓dn_ald, ↓dn_gld, ↓dn_yld, ↓dn_len, ↓dn_gln, ↓dn_cc, ↓dn_cb, ↓dn_and, ↓dn_or, ↓dn_not, ↓dn_cite, ↓dn_ec, ↓dn_ei, ↓dn_skip, ↓dn_seq, ↓dn_set, ↓dn_inc, ↓dn_putf, ↓dn_putz, ↓dn_ast, ↓dn_exp, ↓dn_if, ↓dn_ret, ↓dn_retz, ↓dn_retv, ↓dn_brk, ↓dn_cont, ↓dn_cs, ↓dn_sw, ↓dn_pop32, ↓dn_pop64, ↓dn_aop, ↓dn_call, ↓dn_max, ↓dn_min, ↓dn_acp, ↓dn_i2l, ↓dn_args0, ↓dn_args1, og_pad, og_ent, og_rlt, og_rle, og_rgt, og_rge, og_req, og_rne, og_padd, og_psub, og_pmul, List.getD_cons_zero, List.getD_cons_succ, List.set_cons_zero, List.set_cons_succ, List.length_cons, List.length_nil, List.cons_append, List.nil_append, List.replicate, List.append_nil, Nat.reduceAdd, Nat.reduceSub, Nat.reduceEqDiff, if_true, if_false, reduceIte, Int.reduceAdd, Int.reduceSub, Int.reduceMul, Int.reduceNeg, Int.reduceLT, Int.reduceLE, Int.cast_ofNat_Int, true_or, or_true, true_and, and_true, false_and, List.mem_cons, List.not_mem_nil, or_false, false_or, ne_eq, og_i32]
  rw [q52, q54]
  refine ⟨by omega, ?_⟩
  refine ⟨goJ h (sHeart P (sTk P A).2 (sTk P A).1) (sTk P A).2 (h 1000 54 + (sTk P A).2) (sNp A), ?_, ?_⟩
  · simp -implicitDefEqProofs only [↓dn_den, ↓dn_loc, ↓dn_k, ↓dn_add, ↓dn_sub, ↓dn_mul, ↓dn_div, ↓dn_rem, ↓dn_bop, ↓dn_ladd, ↓dn_lsub, ↓dn_lmul, ↓dn_ldiv, ↓dn_lrem, ↓dn_land, ↓dn_l2i, ↓dn_neg, ↓dn_get, ↓dn_fix, ↓dn_ald, ↓dn_gld, ↓dn_yld, ↓dn_len, ↓dn_gln, ↓dn_cc, ↓dn_cb, ↓dn_and, ↓dn_or, ↓dn_not, ↓dn_cite, ↓dn_ec, ↓dn_ei, ↓dn_skip, ↓dn_seq, ↓dn_set, ↓dn_inc, ↓dn_putf, ↓dn_putz, ↓dn_ast, ↓dn_exp, ↓dn_if, ↓dn_ret, ↓dn_retz, ↓dn_retv, ↓dn_brk, ↓dn_cont, ↓dn_cs, ↓dn_sw, ↓dn_pop32, ↓dn_pop64, ↓dn_aop, ↓dn_call, ↓dn_max, ↓dn_min, ↓dn_acp, ↓dn_i2l, ↓dn_args0, ↓dn_args1, og_pad, og_ent, og_rlt, og_rle, og_rgt, og_rge, og_req, og_rne, og_padd, og_psub, og_pmul, List.getD_cons_zero, List.getD_cons_succ, List.set_cons_zero, List.set_cons_succ, List.length_cons, List.length_nil, List.cons_append, List.nil_append, List.replicate, List.append_nil, Nat.reduceAdd, Nat.reduceSub, Nat.reduceEqDiff, if_true, if_false, reduceIte, Int.reduceAdd, Int.reduceSub, Int.reduceMul, Int.reduceNeg, Int.reduceLT, Int.reduceLE, Int.cast_ofNat_Int, true_or, or_true, true_and, and_true, false_and, List.mem_cons, List.not_mem_nil, or_false, false_or, ne_eq]
    refine og_loop (sNp A) (goJ h (sHeart P (sTk P A).2 (sTk P A).1) (sTk P A).2 (h 1000 54 + (sTk P A).2)) ⟨rfl, isN_O hN3 (by decide), frM_O hF3 (by decide), ?_, og_up_eq⟩ ?_
    · rw [og_up_k (by decide)]; exact q52
    rintro i e1 h4 hi ⟨rfl, hN, hF, q52, q54⟩
    simp -implicitDefEqProofs only [↓dn_den, ↓dn_loc, ↓dn_k, ↓dn_add, ↓dn_sub, ↓dn_mul, ↓dn_div, ↓dn_rem, ↓dn_bop, ↓dn_ladd, ↓dn_lsub, ↓dn_lmul, ↓dn_ldiv, ↓dn_lrem, ↓dn_land, ↓dn_l2i, ↓dn_neg, ↓dn_get, ↓dn_fix, ↓dn_ald, ↓dn_gld, ↓dn_yld, ↓dn_len, ↓dn_gln, ↓dn_cc, ↓dn_cb, ↓dn_and, ↓dn_or, ↓dn_not, ↓dn_cite, ↓dn_ec, ↓dn_ei, ↓dn_skip, ↓dn_seq, ↓dn_set, ↓dn_inc, ↓dn_putf, ↓dn_putz, ↓dn_ast, ↓dn_exp, ↓dn_if, ↓dn_ret, ↓dn_retz, ↓dn_retv, ↓dn_brk, ↓dn_cont, ↓dn_cs, ↓dn_sw, ↓dn_pop32, ↓dn_pop64, ↓dn_aop, ↓dn_call, ↓dn_max, ↓dn_min, ↓dn_acp, ↓dn_i2l, ↓dn_args0, ↓dn_args1, og_pad, og_ent, og_rlt, og_rle, og_rgt, og_rge, og_req, og_rne, og_padd, og_psub, og_pmul, List.getD_cons_zero, List.getD_cons_succ, List.set_cons_zero, List.set_cons_succ, List.length_cons, List.length_nil, List.cons_append, List.nil_append, List.replicate, List.append_nil, Nat.reduceAdd, Nat.reduceSub, Nat.reduceEqDiff, if_true, if_false, reduceIte, Int.reduceAdd, Int.reduceSub, Int.reduceMul, Int.reduceNeg, Int.reduceLT, Int.reduceLE, Int.cast_ofNat_Int, true_or, or_true, true_and, and_true, false_and, List.mem_cons, List.not_mem_nil, or_false, false_or, ne_eq, og_i32]
    have sC := sameC_heart (P := P) (t := (sTk P A).2) (A := (sTk P A).1) (n := i)
    have oi : okY (sHeart P (sTk P A).2 (sTk P A).1 i) := okY_heart o3
    have ei : sHeart P (sTk P A).2 (sTk P A).1 i 0 1 = A 0 1 := (sC 0 1 (by decide)).trans sc.2.1
    apply r_personMany hN.1
    rw [ei]
    refine ⟨fun hlt => ?_, fun hge => ?_⟩
    · have o8 := oi.2.2 i (by omega) (by omega)
      have oV : okV (sHeart P (sTk P A).2 (sTk P A).1 i) i := ⟨oi, by omega, by omega⟩
      apply r_isAlive hN.1 oi (by omega) (by omega)
      refine ⟨fun hx => ?_, fun hx => ?_⟩
      · have ha := ite10 hx
        have hR4 := hasM_M hR hF
        have hR3 := hR4 3 (by decide) (by decide)
        apply r_isTold (by decide)
        obtain ⟨u, hu, -⟩ := hP.1 11 (by decide) (by decide)
        have hty := sVal_ty (cnt := (sTk P A).2) oV (by omega) hu
        refine ⟨fun hz => ?_, fun hz => ?_⟩
        · refine ⟨by omega, by omega, r_heart hR4 hP hN.1 oV (by omega) q52 (told hR3 hz) (fun h5 hf5 => ?_)⟩
          refine r_cut (by decide) hty.1 ?_
          refine ⟨by omega, by omega, by omega, og_nx_mk (by omega) ⟨by simp, ?_, frM_up (frM_tr hF (frM_E hf5)) (by omega), ?_, ?_⟩⟩
          · rw [sHeart_s]; unfold sHeart1; rw [if_pos ha]
            exact isN_upP (c := 7) (d := 21) (by omega) oi (by omega) (by omega) (isN_E hN hf5)
          · rw [og_up_i (by decide), hf5 _ _ (by decide) (fun _ => by decide)]; exact q52
          · rw [og_up_i (by decide), hf5 _ _ (by decide) (fun _ => by decide)]; exact q54
        · have hd := untold hR3 hz
          have hd : P 11 = [-8] := hd
          refine ⟨by omega, og_nx_mk (by omega) ⟨by simp, ?_, hF, q52, q54⟩⟩
          rw [sHeart_s]; unfold sHeart1; rw [if_pos ha, sUp_self ?_]
          · exact hN
          · have e : sVal (P 11) (sHeart P (sTk P A).2 (sTk P A).1 i) i (sTk P A).2 = sHeart P (sTk P A).2 (sTk P A).1 i 7 i := by
              rw [hd]; rfl
            rw [e]; unfold sCut; omega
      · refine ⟨by omega, og_nx_mk (by omega) ⟨by simp, ?_, hF, q52, q54⟩⟩
        rw [sHeart_s]; unfold sHeart1; rw [if_neg (by rw [ite00 hx]; decide)]
        exact hN
    · have e : i = sNp A := by omega
      subst e
      exact ⟨rfl, hN, hF, q52, q54⟩
  rintro e1 h4 ⟨rfl, hN4, hF4, q52, q54⟩
  have o4 : okY (sHt P A) := okY_heart o3
  have sC4 := sameC_heart (P := P) (t := (sTk P A).2) (A := (sTk P A).1) (n := sNp A)
  have ep4 : sHt P A 0 1 = A 0 1 := (sC4 0 1 (by decide)).trans sc.2.1
  have em4 : sHt P A 0 2 = A 0 2 := (sC4 0 2 (by decide)).trans sc.2.2
  have hN4 : isN h4 (sHt P A) := hN4
  refine ⟨fun e5 h5 => isN h5 (sAge P A) ∧ frM h h5 ∧ h5 1000 54 = h 1000 54 + (sTk P A).2 ∧ e5 = [1000, (sNp A : Int)], ?_, ?_⟩
  · simp -implicitDefEqProofs only [↓dn_den, ↓dn_loc, ↓dn_k, ↓dn_add, ↓dn_sub, ↓dn_mul, ↓dn_div, ↓dn_rem, ↓dn_bop, ↓dn_ladd, ↓dn_lsub, ↓dn_lmul, ↓dn_ldiv, ↓dn_lrem, ↓dn_land, ↓dn_l2i, ↓dn_neg, ↓dn_get, ↓dn_fix, ↓dn_ald, ↓dn_gld, ↓dn_yld, ↓dn_len, ↓dn_gln, ↓dn_cc, ↓dn_cb, ↓dn_and, ↓dn_or, ↓dn_not, ↓dn_cite, ↓dn_ec, ↓dn_ei, ↓dn_skip, ↓dn_seq, ↓dn_set, ↓dn_inc, ↓dn_putf, ↓dn_putz, ↓dn_ast, ↓dn_exp, ↓dn_if, ↓dn_ret, ↓dn_retz, ↓dn_retv, ↓dn_brk, ↓dn_cont, ↓dn_cs, ↓dn_sw, ↓dn_pop32, ↓dn_pop64, ↓dn_aop, ↓dn_call, ↓dn_max, ↓dn_min, ↓dn_acp, ↓dn_i2l, ↓dn_args0, ↓dn_args1, og_pad, og_ent, og_rlt, og_rle, og_rgt, og_rge, og_req, og_rne, og_padd, og_psub, og_pmul, List.getD_cons_zero, List.getD_cons_succ, List.set_cons_zero, List.set_cons_succ, List.length_cons, List.length_nil, List.cons_append, List.nil_append, List.replicate, List.append_nil, Nat.reduceAdd, Nat.reduceSub, Nat.reduceEqDiff, if_true, if_false, reduceIte, Int.reduceAdd, Int.reduceSub, Int.reduceMul, Int.reduceNeg, Int.reduceLT, Int.reduceLE, Int.cast_ofNat_Int, true_or, or_true, true_and, and_true, false_and, List.mem_cons, List.not_mem_nil, or_false, false_or, ne_eq]
    have hmod : (A 0 2).tmod 12 = A 0 2 % 12 := Int.tmod_eq_emod_of_nonneg h6.2.2.2.2.1
    refine og_loop (sNp A) (goJ h (fun i => if (A 0 2) % 12 = 11 then sOld (sHt P A) i else sHt P A) (sTk P A).2 (h 1000 54 + (sTk P A).2)) ⟨rfl, by split <;> exact hN4, hF4, q52, q54⟩ ?_
    rintro i e1 h5 hi ⟨rfl, hN, hF, q52, q54⟩
    simp -implicitDefEqProofs only [↓dn_den, ↓dn_loc, ↓dn_k, ↓dn_add, ↓dn_sub, ↓dn_mul, ↓dn_div, ↓dn_rem, ↓dn_bop, ↓dn_ladd, ↓dn_lsub, ↓dn_lmul, ↓dn_ldiv, ↓dn_lrem, ↓dn_land, ↓dn_l2i, ↓dn_neg, ↓dn_get, ↓dn_fix, ↓dn_ald, ↓dn_gld, ↓dn_yld, ↓dn_len, ↓dn_gln, ↓dn_cc, ↓dn_cb, ↓dn_and, ↓dn_or, ↓dn_not, ↓dn_cite, ↓dn_ec, ↓dn_ei, ↓dn_skip, ↓dn_seq, ↓dn_set, ↓dn_inc, ↓dn_putf, ↓dn_putz, ↓dn_ast, ↓dn_exp, ↓dn_if, ↓dn_ret, ↓dn_retz, ↓dn_retv, ↓dn_brk, ↓dn_cont, ↓dn_cs, ↓dn_sw, ↓dn_pop32, ↓dn_pop64, ↓dn_aop, ↓dn_call, ↓dn_max, ↓dn_min, ↓dn_acp, ↓dn_i2l, ↓dn_args0, ↓dn_args1, og_pad, og_ent, og_rlt, og_rle, og_rgt, og_rge, og_req, og_rne, og_padd, og_psub, og_pmul, List.getD_cons_zero, List.getD_cons_succ, List.set_cons_zero, List.set_cons_succ, List.length_cons, List.length_nil, List.cons_append, List.nil_append, List.replicate, List.append_nil, Nat.reduceAdd, Nat.reduceSub, Nat.reduceEqDiff, if_true, if_false, reduceIte, Int.reduceAdd, Int.reduceSub, Int.reduceMul, Int.reduceNeg, Int.reduceLT, Int.reduceLE, Int.cast_ofNat_Int, true_or, or_true, true_and, and_true, false_and, List.mem_cons, List.not_mem_nil, or_false, false_or, ne_eq, og_i32]
    have sC := sameC_old (A := sHt P A) (n := i)
    replace hN : isN h5 (if (A 0 2) % 12 = 11 then sOld (sHt P A) i else sHt P A) := hN
    by_cases hy : (A 0 2) % 12 = 11
    · rw [if_pos hy] at hN
      have oi : okY (sOld (sHt P A) i) := okY_old o4 (by omega)
      have ei : sOld (sHt P A) i 0 1 = A 0 1 := (sC 0 1 (by decide)).trans ep4
      have em : h5 1037 0 = A 0 2 := by rw [hN.1.1.2.2]; exact (sC 0 2 (by decide)).trans em4
      apply r_personMany hN.1
      rw [ei]
      refine ⟨fun hlt => ?_, fun hge => ?_⟩
      · have o8 := oi.2.2 i (by omega) (by omega)
        apply r_isAlive hN.1 oi (by omega) (by omega)
        refine ⟨fun hx => ?_, fun hx => ?_⟩
        · have ha := ite10 hx
          rw [em, hmod]
          refine ⟨by decide, fun _ => ?_, fun q => absurd hy q⟩
          apply r_ageOf hN.1 oi (by omega) (by omega)
          have ev := (hN.1.2.2 i (by omega) (by omega)).2.1
          refine ⟨fun hq => ?_, fun hq => ?_⟩
          · rw [ev]
            refine ⟨by omega, by omega, by omega, by omega, by omega, by omega, og_nx_mk (by omega) ⟨by simp, ?_, frM_up hF (by omega), ?_, ?_⟩⟩
            · refine ageB (B := sOld (sHt P A)) hy ?_; rw [sOld_s]; unfold sOld1; rw [if_pos ha]
              have e : min 99 (sOld (sHt P A) i 6 i + 1) = sOld (sHt P A) i 6 i + 1 := by omega
              rw [e]
              exact isN_upP (c := 6) (d := 20) (by omega) oi (by omega) (by omega) hN
            · rw [og_up_i (by decide)]; exact q52
            · rw [og_up_i (by decide)]; exact q54
          · refine ⟨by omega, og_nx_mk (by omega) ⟨by simp, ?_, hF, q52, q54⟩⟩
            refine ageB (B := sOld (sHt P A)) hy ?_; rw [sOld_s]; unfold sOld1; rw [if_pos ha, sUp_self (by omega)]
            exact hN
        · refine ⟨by omega, og_nx_mk (by omega) ⟨by simp, ?_, hF, q52, q54⟩⟩
          refine ageB (B := sOld (sHt P A)) hy ?_; rw [sOld_s]; unfold sOld1; rw [if_neg (by rw [ite00 hx]; decide)]
          exact hN
      · have e : i = sNp A := by omega
        subst e
        refine ⟨?_, hF, q54, rfl⟩
        unfold sAge; rw [if_pos hy]; exact hN
    · rw [if_neg hy] at hN
      have em : h5 1037 0 = A 0 2 := by rw [hN.1.1.2.2]; exact em4
      apply r_personMany hN.1
      rw [ep4]
      refine ⟨fun hlt => ?_, fun hge => ?_⟩
      · have go : og_nx (sNp A) (goJ h (fun i => if (A 0 2) % 12 = 11 then sOld (sHt P A) i else sHt P A) (sTk P A).2 (h 1000 54 + (sTk P A).2)) i [1000, (i : Int) + 1] h5 := og_nx_mk (by omega) ⟨by simp, ageC hy hN, hF, q52, q54⟩
        apply r_isAlive hN.1 o4 (by omega) (by omega)
        refine ⟨fun hx => ?_, fun hx => ⟨by omega, go⟩⟩
        rw [em, hmod]
        exact ⟨by decide, fun q => absurd q hy, fun _ => ⟨by omega, go⟩⟩
      · have e : i = sNp A := by omega
        subst e
        refine ⟨?_, hF, q54, rfl⟩
        unfold sAge; rw [if_neg hy]; exact hN
  rintro e1 h5 ⟨hN5, hF5, q54, rfl⟩
  simp -implicitDefEqProofs only [↓dn_den, ↓dn_loc, ↓dn_k, ↓dn_add, ↓dn_sub, ↓dn_mul, ↓dn_div, ↓dn_rem, ↓dn_bop, ↓dn_ladd, ↓dn_lsub, ↓dn_lmul, ↓dn_ldiv, ↓dn_lrem, ↓dn_land, ↓dn_l2i, ↓dn_neg, ↓dn_get, ↓dn_fix, ↓dn_ald, ↓dn_gld, ↓dn_yld, ↓dn_len, ↓dn_gln, ↓dn_cc, ↓dn_cb, ↓dn_and, ↓dn_or, ↓dn_not, ↓dn_cite, ↓dn_ec, ↓dn_ei, ↓dn_skip, ↓dn_seq, ↓dn_set, ↓dn_inc, ↓dn_putf, ↓dn_putz, ↓dn_ast, ↓dn_exp, ↓dn_if, ↓dn_ret, ↓dn_retz, ↓dn_retv, ↓dn_brk, ↓dn_cont, ↓dn_cs, ↓dn_sw, ↓dn_pop32, ↓dn_pop64, ↓dn_aop, ↓dn_call, ↓dn_max, ↓dn_min, ↓dn_acp, ↓dn_i2l, ↓dn_args0, ↓dn_args1, og_pad, og_ent, og_rlt, og_rle, og_rgt, og_rge, og_req, og_rne, og_padd, og_psub, og_pmul, List.getD_cons_zero, List.getD_cons_succ, List.set_cons_zero, List.set_cons_succ, List.length_cons, List.length_nil, List.cons_append, List.nil_append, List.replicate, List.append_nil, Nat.reduceAdd, Nat.reduceSub, Nat.reduceEqDiff, if_true, if_false, reduceIte, Int.reduceAdd, Int.reduceSub, Int.reduceMul, Int.reduceNeg, Int.reduceLT, Int.reduceLE, Int.cast_ofNat_Int, true_or, or_true, true_and, and_true, false_and, List.mem_cons, List.not_mem_nil, or_false, false_or, ne_eq, og_i32]
  have sA := sPass_sc (P := P) (A := A)
  have em : h5 1037 0 = A 0 2 := by rw [hN5.1.1.2.2]; exact sA.2.2.1
  rw [em]
  refine ⟨by omega, hK _ (isN_up0 (okY_age ho) hN5) (frM_up hF5 (by decide)) ?_⟩
  rw [og_up_i (by decide)]; exact q54
end
