-- months one behind another
def sIt (P : Pr) (A : Yd) : Nat → Yd
  | 0 => A
  | n + 1 => sPass P (sIt P A n)
def sTot (P : Pr) (A : Yd) : Nat → Int
  | 0 => 0
  | n + 1 => sTot P A n + (sTk P (sIt P A n)).2
theorem sIt_s (P : Pr) (A : Yd) (n : Nat) : sIt P A (n + 1) = sPass P (sIt P A n) := rfl
theorem sTot_s (P : Pr) (A : Yd) (n : Nat) : sTot P A (n + 1) = sTot P A n + (sTk P (sIt P A n)).2 := rfl
theorem sPass_0 {P : Pr} {A : Yd} : sPass P A 0 0 = A 0 0 ∧ sPass P A 0 1 = A 0 1 ∧ sPass P A 0 2 = A 0 2 + 1 := by
  have s := sPass_sc (P := P) (A := A)
  unfold sPass
  exact ⟨by rw [sUp_k (by decide)]; exact s.1, by rw [sUp_k (by decide)]; exact s.2.1, sUp_eq⟩
theorem sPass_c {P : Pr} {A : Yd} {k : Int} : sPass P A 1 k = A 1 k ∧ sPass P A 5 k = A 5 k ∧ sPass P A 2 k = A 2 k := by
  have s := (sPass_sc (P := P) (A := A)).2.2.2 k
  unfold sPass
  exact ⟨by rw [sUp_c (by decide)]; exact s.1, by rw [sUp_c (by decide)]; exact s.2.1, by rw [sUp_c (by decide)]; exact s.2.2⟩
theorem sIt_0 {P : Pr} {A : Yd} : ∀ n : Nat, sIt P A n 0 0 = A 0 0 ∧ sIt P A n 0 1 = A 0 1 ∧ sIt P A n 0 2 = A 0 2 + n
  | 0 => ⟨rfl, rfl, by simp [sIt]⟩
  | n + 1 => by
    have h := sIt_0 (P := P) (A := A) n
    have s := sPass_0 (P := P) (A := sIt P A n)
    rw [sIt_s]
    refine ⟨s.1.trans h.1, s.2.1.trans h.2.1, ?_⟩
    rw [s.2.2, h.2.2]
    omega
theorem sIt_c {P : Pr} {A : Yd} {k : Int} : ∀ n : Nat, sIt P A n 1 k = A 1 k ∧ sIt P A n 5 k = A 5 k ∧ sIt P A n 2 k = A 2 k
  | 0 => ⟨rfl, rfl, rfl⟩
  | n + 1 => by
    have h := sIt_c (P := P) (A := A) (k := k) n
    have s := sPass_c (P := P) (A := sIt P A n) (k := k)
    rw [sIt_s]
    exact ⟨s.1.trans h.1, s.2.1.trans h.2.1, s.2.2.trans h.2.2⟩
theorem okY_it {P : Pr} {A : Yd} (ho : okY A) : ∀ n : Nat, A 0 2 + n ≤ 2000 → okY (sIt P A n)
  | 0, _ => ho
  | n + 1, hn => by
    rw [sIt_s]
    refine okY_pass (okY_it ho n (by omega)) ?_
    rw [(sIt_0 n).2.2]
    omega
theorem okK_it {P : Pr} {A : Yd} (ho : okY A) (hk : okK A) : ∀ n : Nat, A 0 2 + n ≤ 2000 → okK (sIt P A n)
  | 0, _ => hk
  | n + 1, hn => okK_pass (okY_it ho n (by omega)) (okK_it ho hk n (by omega))
theorem sTk_rg {P : Pr} {A : Yd} (ho : okY A) : 0 ≤ (sTk P A).2 ∧ (sTk P A).2 ≤ 6 := by
  have tr : 0 ≤ (sTk P A).2 ∧ (sTk P A).2 ≤ sNg A := sTake_rg (W := fun p => sVal (P 10) (sNear (sCome P A (sNp A)) (sNg A)) p 0) (A := sNear (sCome P A (sNp A)) (sNg A)) (n := sNg A)
  have h6 := ho.1
  have : sNg A = (A 0 0).toNat := rfl
  omega
theorem sTot_rg {P : Pr} {A : Yd} (ho : okY A) : ∀ n : Nat, A 0 2 + n ≤ 2000 → 0 ≤ sTot P A n ∧ sTot P A n ≤ 6 * n
  | 0, _ => ⟨by simp [sTot], by simp [sTot]⟩
  | n + 1, hn => by
    have h := sTot_rg (P := P) ho n (by omega)
    have t := sTk_rg (P := P) (okY_it (P := P) ho n (by omega))
    rw [sTot_s]
    omega
-- once no grave asks
theorem sCnt_0 {f : Int → Bool} : ∀ n : Nat, sCnt f n = 0 → ∀ k : Nat, k < n → f k = false
  | 0, _, k, hk => by omega
  | n + 1, h, k, hk => by
    rw [sCnt_s] at h
    have hc := sCnt_le f n
    cases hf : f (n : Int)
    · rw [hf] at h
      by_cases e : k = n
      · subst e; exact hf
      · exact sCnt_0 n (by simpa using h) k (by omega)
    · rw [hf] at h
      simp at h
      omega
theorem sNext_none {A : Yd} {p : Int} : ∀ n : Nat, (∀ k : Nat, k < n → sAsk A k = false) → sNext A p n = -1
  | 0, _ => rfl
  | n + 1, h => by rw [sNext_s, h n (by omega), sNext_none n (fun k hk => h k (by omega))]; rfl
theorem sNear_none {A : Yd} : ∀ n : Nat, (∀ k : Nat, k < n → sAsk A k = false) → sNear A n = A
  | 0, _ => rfl
  | n + 1, h => by
    rw [sNear_s, sNear_none n (fun k hk => h k (by omega))]
    unfold sNear1
    rw [h n (by omega)]
    rfl
theorem sCome_none {P : Pr} {A : Yd} (h : ∀ k : Nat, k < sNg A → sAsk A k = false) : ∀ n : Nat, sCome P A n = A
  | 0 => rfl
  | n + 1 => by
    rw [sCome_s, sCome_none h n]
    unfold sCome1
    rw [if_neg]
    exact fun z => z.2.2 (sNext_none _ h)
theorem sTk_none {P : Pr} {A : Yd} (h : sAsked A = 0) : sTk P A = (A, 0) := by
  have h1 : ∀ k : Nat, k < sNg A → sAsk A k = false := sCnt_0 _ h
  unfold sTk
  rw [sCome_none h1, sNear_none _ h1]
  exact sTake_none _ (fun g hg ha => by rw [h1 g hg] at ha; cases ha)
theorem sPass_none {P : Pr} {A : Yd} (h : sAsked A = 0) : (∀ k, sPass P A 4 k = A 4 k) ∧ sAsked (sPass P A) = 0 := by
  have h4 : ∀ k, sPass P A 4 k = A 4 k := by
    intro k
    unfold sPass
    rw [sUp_c (by decide)]
    have e1 : sHt P A 4 k = A 4 k := by
      have := sameC_heart (P := P) (t := (sTk P A).2) (A := (sTk P A).1) (n := sNp A) 4 k (by decide)
      unfold sHt
      rw [this, sTk_none h]
    unfold sAge
    split
    · rw [sameC_old 4 k (by decide)]; exact e1
    · exact e1
  refine ⟨h4, ?_⟩
  have ea : sAsk (sPass P A) = sAsk A := by
    funext g
    unfold sAsk
    rw [h4 g, (sPass_c (k := g)).2.2]
  unfold sAsked at h ⊢
  rw [ea, sNg_eq sPass_0.1]
  exact h
theorem sIt_add {P : Pr} {A : Yd} {n : Nat} : ∀ m : Nat, sAsked (sIt P A n) = 0 → (∀ k, sIt P A (n + m) 4 k = sIt P A n 4 k) ∧ sTot P A (n + m) = sTot P A n ∧ sAsked (sIt P A (n + m)) = 0
  | 0, h => ⟨fun _ => rfl, rfl, h⟩
  | m + 1, h => by
    have ih := sIt_add m h
    have s := sPass_none (P := P) ih.2.2
    have e : n + (m + 1) = (n + m) + 1 := by omega
    rw [e, sIt_s, sTot_s, sTk_none ih.2.2]
    exact ⟨fun k => (s.1 k).trans (ih.1 k), by rw [ih.2.1]; simp, s.2⟩
-- ===== the class: ahead
section
variable {h : Hp} {A : Yd} {P : Pr} {K : Int → Hp → Prop}
theorem s_Out_takenBehind {s n : Int} (hR : hasR h s (A 0 1) P) (hP : okP P) (hs : 10 < s) (hs2 : s + 3 < 110) (hy : isY h 110 A) (ho : okY A) (hn : n ≤ 100) (hm : A 0 2 + n ≤ 999) (hm0 : A 0 2 ≤ 999)
    (hK : ∀ h' B, isY h' 110 B → B 0 0 = A 0 0 → (∀ k, B 4 k = sIt P A n.toNat 4 k) → frY 110 h h' → K (sTot P A n.toNat) h') : m_Outlook_takenBehind [10, s, n] h K := by
  have h6 := ho.1
  unfold m_Outlook_takenBehind
  simp -implicitDefEqProofs only [↓dn_den, ↓dn_loc, ↓dn_k, ↓dn_add, ↓dn_sub, ↓dn_mul, ↓dn_div, ↓dn_rem, ↓dn_bop, ↓dn_ladd, ↓dn_lsub, ↓dn_lmul, ↓dn_ldiv, ↓dn_lrem, ↓dn_land, ↓dn_l2i, ↓dn_neg, ↓dn_get, ↓dn_fix, ↓dn_ald, ↓dn_gld, ↓dn_yld, ↓dn_len, ↓dn_gln, ↓dn_cc, ↓dn_cb, ↓dn_and, ↓dn_or, ↓dn_not, ↓dn_cite, ↓dn_ec, ↓dn_ei, ↓dn_skip, ↓dn_seq, ↓dn_set, ↓dn_inc, ↓dn_putf, ↓dn_putz, ↓dn_ast, ↓dn_exp, ↓dn_if, ↓dn_ret, ↓dn_retz, ↓dn_retv, ↓dn_brk, ↓dn_cont, ↓dn_cs, ↓dn_sw, ↓dn_pop32, ↓dn_pop64, ↓dn_aop, ↓dn_call, ↓dn_max, ↓dn_min, ↓dn_acp, ↓dn_i2l, ↓dn_args0, ↓dn_args1, og_pad, og_ent, og_rlt, og_rle, og_rgt, og_rge, og_req, og_rne, og_padd, og_psub, og_pmul, List.getD_cons_zero, List.getD_cons_succ, List.set_cons_zero, List.set_cons_succ, List.length_cons, List.length_nil, List.cons_append, List.nil_append, List.replicate, List.append_nil, Nat.reduceAdd, Nat.reduceSub, Nat.reduceEqDiff, if_true, if_false, reduceIte, Int.reduceAdd, Int.reduceSub, Int.reduceMul, Int.reduceNeg, Int.reduceLT, Int.reduceLE, Int.cast_ofNat_Int, true_or, or_true, true_and, and_true, false_and, List.mem_cons, List.not_mem_nil, or_false, false_or, ne_eq]
  refine ⟨fun e1 h1 => (∃ c4, e1 = [10, s, n, sTot P A n.toNat, c4]) ∧ ∃ B, isY h1 110 B ∧ B 0 0 = A 0 0 ∧ (∀ k, B 4 k = sIt P A n.toNat 4 k) ∧ frY 110 h h1, ?_, ?_⟩
  · simp -implicitDefEqProofs only [↓dn_den, ↓dn_loc, ↓dn_k, ↓dn_add, ↓dn_sub, ↓dn_mul, ↓dn_div, ↓dn_rem, ↓dn_bop, ↓dn_ladd, ↓dn_lsub, ↓dn_lmul, ↓dn_ldiv, ↓dn_lrem, ↓dn_land, ↓dn_l2i, ↓dn_neg, ↓dn_get, ↓dn_fix, ↓dn_ald, ↓dn_gld, ↓dn_yld, ↓dn_len, ↓dn_gln, ↓dn_cc, ↓dn_cb, ↓dn_and, ↓dn_or, ↓dn_not, ↓dn_cite, ↓dn_ec, ↓dn_ei, ↓dn_skip, ↓dn_seq, ↓dn_set, ↓dn_inc, ↓dn_putf, ↓dn_putz, ↓dn_ast, ↓dn_exp, ↓dn_if, ↓dn_ret, ↓dn_retz, ↓dn_retv, ↓dn_brk, ↓dn_cont, ↓dn_cs, ↓dn_sw, ↓dn_pop32, ↓dn_pop64, ↓dn_aop, ↓dn_call, ↓dn_max, ↓dn_min, ↓dn_acp, ↓dn_i2l, ↓dn_args0, ↓dn_args1, og_pad, og_ent, og_rlt, og_rle, og_rgt, og_rge, og_req, og_rne, og_padd, og_psub, og_pmul, List.getD_cons_zero, List.getD_cons_succ, List.set_cons_zero, List.set_cons_succ, List.length_cons, List.length_nil, List.cons_append, List.nil_append, List.replicate, List.append_nil, Nat.reduceAdd, Nat.reduceSub, Nat.reduceEqDiff, if_true, if_false, reduceIte, Int.reduceAdd, Int.reduceSub, Int.reduceMul, Int.reduceNeg, Int.reduceLT, Int.reduceLE, Int.cast_ofNat_Int, true_or, or_true, true_and, and_true, false_and, List.mem_cons, List.not_mem_nil, or_false, false_or, ne_eq]
    refine og_loop n.toNat (fun i e1 h1 => e1 = [10, s, n, sTot P A i, (i : Int)] ∧ isY h1 110 (sIt P A i) ∧ frY 110 h h1) ⟨rfl, hy, frY_rf⟩ ?_
    rintro i e1 h1 hi ⟨rfl, hY, hF⟩
    simp -implicitDefEqProofs only [↓dn_den, ↓dn_loc, ↓dn_k, ↓dn_add, ↓dn_sub, ↓dn_mul, ↓dn_div, ↓dn_rem, ↓dn_bop, ↓dn_ladd, ↓dn_lsub, ↓dn_lmul, ↓dn_ldiv, ↓dn_lrem, ↓dn_land, ↓dn_l2i, ↓dn_neg, ↓dn_get, ↓dn_fix, ↓dn_ald, ↓dn_gld, ↓dn_yld, ↓dn_len, ↓dn_gln, ↓dn_cc, ↓dn_cb, ↓dn_and, ↓dn_or, ↓dn_not, ↓dn_cite, ↓dn_ec, ↓dn_ei, ↓dn_skip, ↓dn_seq, ↓dn_set, ↓dn_inc, ↓dn_putf, ↓dn_putz, ↓dn_ast, ↓dn_exp, ↓dn_if, ↓dn_ret, ↓dn_retz, ↓dn_retv, ↓dn_brk, ↓dn_cont, ↓dn_cs, ↓dn_sw, ↓dn_pop32, ↓dn_pop64, ↓dn_aop, ↓dn_call, ↓dn_max, ↓dn_min, ↓dn_acp, ↓dn_i2l, ↓dn_args0, ↓dn_args1, og_pad, og_ent, og_rlt, og_rle, og_rgt, og_rge, og_req, og_rne, og_padd, og_psub, og_pmul, List.getD_cons_zero, List.getD_cons_succ, List.set_cons_zero, List.set_cons_succ, List.length_cons, List.length_nil, List.cons_append, List.nil_append, List.replicate, List.append_nil, Nat.reduceAdd, Nat.reduceSub, Nat.reduceEqDiff, if_true, if_false, reduceIte, Int.reduceAdd, Int.reduceSub, Int.reduceMul, Int.reduceNeg, Int.reduceLT, Int.reduceLE, Int.cast_ofNat_Int, true_or, or_true, true_and, and_true, false_and, List.mem_cons, List.not_mem_nil, or_false, false_or, ne_eq, og_i32]
    have s0 := sIt_0 (P := P) (A := A) i
    have oi : okY (sIt P A i) := okY_it ho i (by omega)
    have tg := sTot_rg (P := P) ho i (by omega)
    refine ⟨fun hlt => ?_, fun hge => ?_⟩
    · apply s_Yard_countAsking hY oi
      refine ⟨fun hpos => ?_, fun hz => ?_⟩
      · refine s_Alm_pass (hasR_N (hasR_fr hR hF hs hs2) s0.2.1) hP hs hs2 hY oi (by rw [s0.2.2]; omega) (fun h2 hY2 hF2 => ?_)
        have tk := sTk_rg (P := P) oi
        refine ⟨by omega, by omega, og_nx_mk (by omega) ⟨?_, hY2, frY_tr hF hF2⟩⟩
        rw [sTot_s]
        simp
      · have hc := sCnt_le (sAsk (sIt P A i)) (sIt P A i 0 0).toNat
        have z : sAsked (sIt P A i) = 0 := by
          show sCnt (sAsk (sIt P A i)) (sIt P A i 0 0).toNat = 0
          omega
        have ad := sIt_add (P := P) (A := A) (n := i) (n.toNat - i) z
        have e : i + (n.toNat - i) = n.toNat := by omega
        rw [e] at ad
        exact ⟨⟨_, by rw [ad.2.1]⟩, sIt P A i, hY, s0.1, fun k => (ad.1 k).symm, hF⟩
    · have e : i = n.toNat := by omega
      subst e
      exact ⟨⟨_, rfl⟩, _, hY, s0.1, fun _ => rfl, hF⟩
  · rintro e1 h1 ⟨⟨c4, rfl⟩, B, hB, hB0, hB4, hF⟩
    simp -implicitDefEqProofs only [↓dn_den, ↓dn_loc, ↓dn_k, ↓dn_add, ↓dn_sub, ↓dn_mul, ↓dn_div, ↓dn_rem, ↓dn_bop, ↓dn_ladd, ↓dn_lsub, ↓dn_lmul, ↓dn_ldiv, ↓dn_lrem, ↓dn_land, ↓dn_l2i, ↓dn_neg, ↓dn_get, ↓dn_fix, ↓dn_ald, ↓dn_gld, ↓dn_yld, ↓dn_len, ↓dn_gln, ↓dn_cc, ↓dn_cb, ↓dn_and, ↓dn_or, ↓dn_not, ↓dn_cite, ↓dn_ec, ↓dn_ei, ↓dn_skip, ↓dn_seq, ↓dn_set, ↓dn_inc, ↓dn_putf, ↓dn_putz, ↓dn_ast, ↓dn_exp, ↓dn_if, ↓dn_ret, ↓dn_retz, ↓dn_retv, ↓dn_brk, ↓dn_cont, ↓dn_cs, ↓dn_sw, ↓dn_pop32, ↓dn_pop64, ↓dn_aop, ↓dn_call, ↓dn_max, ↓dn_min, ↓dn_acp, ↓dn_i2l, ↓dn_args0, ↓dn_args1, og_pad, og_ent, og_rlt, og_rle, og_rgt, og_rge, og_req, og_rne, og_padd, og_psub, og_pmul, List.getD_cons_zero, List.getD_cons_succ, List.set_cons_zero, List.set_cons_succ, List.length_cons, List.length_nil, List.cons_append, List.nil_append, List.replicate, List.append_nil, Nat.reduceAdd, Nat.reduceSub, Nat.reduceEqDiff, if_true, if_false, reduceIte, Int.reduceAdd, Int.reduceSub, Int.reduceMul, Int.reduceNeg, Int.reduceLT, Int.reduceLE, Int.cast_ofNat_Int, true_or, or_true, true_and, and_true, false_and, List.mem_cons, List.not_mem_nil, or_false, false_or, ne_eq]
    exact hK h1 B hB hB0 hB4 hF
theorem s_Out_takenIn {s n : Int} (hR : hasR h s (A 0 1) P) (hP : okP P) (hs : 10 < s) (hs2 : s + 3 < 100) (hy : isY h 100 A) (ho : okY A) (hn : n ≤ 100) (hm : A 0 2 + n ≤ 999) (hm0 : A 0 2 ≤ 999)
    (hK : ∀ h' B, isY h' 110 B → B 0 0 = A 0 0 → (∀ k, B 4 k = sIt P A n.toNat 4 k) → frY 110 h h' → K (sTot P A n.toNat) h') : m_Outlook_takenIn [10, s, 100, n] h K := by
  unfold m_Outlook_takenIn
  simp -implicitDefEqProofs only [↓dn_den, ↓dn_loc, ↓dn_k, ↓dn_add, ↓dn_sub, ↓dn_mul, ↓dn_div, ↓dn_rem, ↓dn_bop, ↓dn_ladd, ↓dn_lsub, ↓dn_lmul, ↓dn_ldiv, ↓dn_lrem, ↓dn_land, ↓dn_l2i, ↓dn_neg, ↓dn_get, ↓dn_fix, ↓dn_ald, ↓dn_gld, ↓dn_yld, ↓dn_len, ↓dn_gln, ↓dn_cc, ↓dn_cb, ↓dn_and, ↓dn_or, ↓dn_not, ↓dn_cite, ↓dn_ec, ↓dn_ei, ↓dn_skip, ↓dn_seq, ↓dn_set, ↓dn_inc, ↓dn_putf, ↓dn_putz, ↓dn_ast, ↓dn_exp, ↓dn_if, ↓dn_ret, ↓dn_retz, ↓dn_retv, ↓dn_brk, ↓dn_cont, ↓dn_cs, ↓dn_sw, ↓dn_pop32, ↓dn_pop64, ↓dn_aop, ↓dn_call, ↓dn_max, ↓dn_min, ↓dn_acp, ↓dn_i2l, ↓dn_args0, ↓dn_args1, og_pad, og_ent, og_rlt, og_rle, og_rgt, og_rge, og_req, og_rne, og_padd, og_psub, og_pmul, List.getD_cons_zero, List.getD_cons_succ, List.set_cons_zero, List.set_cons_succ, List.length_cons, List.length_nil, List.cons_append, List.nil_append, List.replicate, List.append_nil, Nat.reduceAdd, Nat.reduceSub, Nat.reduceEqDiff, if_true, if_false, reduceIte, Int.reduceAdd, Int.reduceSub, Int.reduceMul, Int.reduceNeg, Int.reduceLT, Int.reduceLE, Int.cast_ofNat_Int, true_or, or_true, true_and, and_true, false_and, List.mem_cons, List.not_mem_nil, or_false, false_or, ne_eq]
  refine s_Yard_become (by omega) hy ho (fun h1 hY1 hF1 => ?_)
  refine s_Out_takenBehind (hasR_fr hR hF1 hs (by omega)) hP hs (by omega) hY1 ho hn hm hm0 (fun h2 B a b c d => hK h2 B a b c (frY_tr hF1 d))
-- the first number for which something holds, at most so many
def sLf (f : Nat → Bool) : Nat → Nat
  | 0 => 0
  | k + 1 => if f (sLf f k) then sLf f k else sLf f k + 1
theorem sLf_eq {f : Nat → Bool} {n : Nat} (hn : ∀ m, m < n → f m = false) : ∀ k : Nat, k ≤ n → sLf f k = k
  | 0, _ => rfl
  | k + 1, hk => by
    have ih := sLf_eq hn k (by omega)
    unfold sLf
    rw [ih, hn k (by omega)]
    rfl
theorem sLf_st {f : Nat → Bool} {n : Nat} (hn : ∀ m, m < n → f m = false) (hf : f n = true) : ∀ k : Nat, n ≤ k → sLf f k = n
  | 0, hk => by have : n = 0 := by omega
                subst this; rfl
  | k + 1, hk => by
    by_cases e : n ≤ k
    · unfold sLf
      rw [sLf_st hn hf k e, hf]
      rfl
    · have : k + 1 = n := by omega
      rw [this]
      exact sLf_eq hn n (Nat.le_refl n)
theorem sLf_un {f : Nat → Bool} {n last : Nat} (hn : ∀ m, m < n → f m = false) (hl : n ≤ last) (h : f n = true ∨ n = last) : sLf f last = n := by
  rcases h with h | h
  · exact sLf_st hn h last hl
  · subst h; exact sLf_eq hn n (Nat.le_refl n)
def sFilled (P : Pr) (A : Yd) (g : Int) : Int := if sFill (sIt P A (sLf (fun m => sFill (sIt P A m) g) (min 60 (999 - A 0 2)).toNat)) g = true then (sLf (fun m => sFill (sIt P A m) g) (min 60 (999 - A 0 2)).toNat : Int) else -1
theorem sFilled_un {g : Int} {n : Nat} (hn : ∀ m, m < n → sFill (sIt P A m) g = false) (hl : n ≤ (min 60 (999 - A 0 2)).toNat) (h : sFill (sIt P A n) g = true ∨ n = (min 60 (999 - A 0 2)).toNat) : sFilled P A g = if sFill (sIt P A n) g = true then (n : Int) else -1 := by
  unfold sFilled
  rw [sLf_un hn hl h]
theorem s_Out_filledBehind {s g : Int} (hR : hasR h s (A 0 1) P) (hP : okP P) (hs : 10 < s) (hs2 : s + 3 < 100) (hy : isY h 100 A) (ho : okY A) (hm0 : A 0 2 ≤ 999) (hg0 : 0 ≤ g) (hg1 : g < A 0 0)
    (hK : ∀ h', frY 110 h h' → K (sFilled P A g) h') : m_Outlook_filledBehind [10, s, 100, g] h K := by
  have h6 := ho.1
  unfold m_Outlook_filledBehind
  simp -implicitDefEqProofs only [↓dn_den, ↓dn_loc, ↓dn_k, ↓dn_add, ↓dn_sub, ↓dn_mul, ↓dn_div, ↓dn_rem, ↓dn_bop, ↓dn_ladd, ↓dn_lsub, ↓dn_lmul, ↓dn_ldiv, ↓dn_lrem, ↓dn_land, ↓dn_l2i, ↓dn_neg, ↓dn_get, ↓dn_fix, ↓dn_ald, ↓dn_gld, ↓dn_yld, ↓dn_len, ↓dn_gln, ↓dn_cc, ↓dn_cb, ↓dn_and, ↓dn_or, ↓dn_not, ↓dn_cite, ↓dn_ec, ↓dn_ei, ↓dn_skip, ↓dn_seq, ↓dn_set, ↓dn_inc, ↓dn_putf, ↓dn_putz, ↓dn_ast, ↓dn_exp, ↓dn_if, ↓dn_ret, ↓dn_retz, ↓dn_retv, ↓dn_brk, ↓dn_cont, ↓dn_cs, ↓dn_sw, ↓dn_pop32, ↓dn_pop64, ↓dn_aop, ↓dn_call, ↓dn_max, ↓dn_min, ↓dn_acp, ↓dn_i2l, ↓dn_args0, ↓dn_args1, og_pad, og_ent, og_rlt, og_rle, og_rgt, og_rge, og_req, og_rne, og_padd, og_psub, og_pmul, List.getD_cons_zero, List.getD_cons_succ, List.set_cons_zero, List.set_cons_succ, List.length_cons, List.length_nil, List.cons_append, List.nil_append, List.replicate, List.append_nil, Nat.reduceAdd, Nat.reduceSub, Nat.reduceEqDiff, if_true, if_false, reduceIte, Int.reduceAdd, Int.reduceSub, Int.reduceMul, Int.reduceNeg, Int.reduceLT, Int.reduceLE, Int.cast_ofNat_Int, true_or, or_true, true_and, and_true, false_and, List.mem_cons, List.not_mem_nil, or_false, false_or, ne_eq, og_i32]
  refine s_Yard_become (by omega) hy ho (fun h1 hY1 hF1 => ?_)
  have em : h1 100 2 = A 0 2 := by rw [hF1 100 2 (by decide) (by decide) (by decide)]; exact hy.1.2.2.1
  rw [em]
  refine ⟨by omega, ?_⟩
  generalize hL : min 60 (999 - A 0 2) = L
  refine ⟨fun e2 h2 => ∃ n : Nat, e2 = [10, s, 100, g, L, (n : Int)] ∧ isY h2 110 (sIt P A n) ∧ frY 110 h h2 ∧ n ≤ L.toNat ∧ (∀ m, m < n → sFill (sIt P A m) g = false) ∧ (sFill (sIt P A n) g = true ∨ n = L.toNat), ?_, ?_⟩
  · simp -implicitDefEqProofs only [↓dn_den, ↓dn_loc, ↓dn_k, ↓dn_add, ↓dn_sub, ↓dn_mul, ↓dn_div, ↓dn_rem, ↓dn_bop, ↓dn_ladd, ↓dn_lsub, ↓dn_lmul, ↓dn_ldiv, ↓dn_lrem, ↓dn_land, ↓dn_l2i, ↓dn_neg, ↓dn_get, ↓dn_fix, ↓dn_ald, ↓dn_gld, ↓dn_yld, ↓dn_len, ↓dn_gln, ↓dn_cc, ↓dn_cb, ↓dn_and, ↓dn_or, ↓dn_not, ↓dn_cite, ↓dn_ec, ↓dn_ei, ↓dn_skip, ↓dn_seq, ↓dn_set, ↓dn_inc, ↓dn_putf, ↓dn_putz, ↓dn_ast, ↓dn_exp, ↓dn_if, ↓dn_ret, ↓dn_retz, ↓dn_retv, ↓dn_brk, ↓dn_cont, ↓dn_cs, ↓dn_sw, ↓dn_pop32, ↓dn_pop64, ↓dn_aop, ↓dn_call, ↓dn_max, ↓dn_min, ↓dn_acp, ↓dn_i2l, ↓dn_args0, ↓dn_args1, og_pad, og_ent, og_rlt, og_rle, og_rgt, og_rge, og_req, og_rne, og_padd, og_psub, og_pmul, List.getD_cons_zero, List.getD_cons_succ, List.set_cons_zero, List.set_cons_succ, List.length_cons, List.length_nil, List.cons_append, List.nil_append, List.replicate, List.append_nil, Nat.reduceAdd, Nat.reduceSub, Nat.reduceEqDiff, if_true, if_false, reduceIte, Int.reduceAdd, Int.reduceSub, Int.reduceMul, Int.reduceNeg, Int.reduceLT, Int.reduceLE, Int.cast_ofNat_Int, true_or, or_true, true_and, and_true, false_and, List.mem_cons, List.not_mem_nil, or_false, false_or, ne_eq]
    refine og_loop L.toNat (fun i e1 h1 => e1 = [10, s, 100, g, L, (i : Int)] ∧ isY h1 110 (sIt P A i) ∧ frY 110 h h1 ∧ (∀ m, m < i → sFill (sIt P A m) g = false)) ⟨rfl, hY1, hF1, fun m hm => absurd hm (by omega)⟩ ?_
    rintro i e1 h2 hi ⟨rfl, hY, hF, hno⟩
    simp -implicitDefEqProofs only [↓dn_den, ↓dn_loc, ↓dn_k, ↓dn_add, ↓dn_sub, ↓dn_mul, ↓dn_div, ↓dn_rem, ↓dn_bop, ↓dn_ladd, ↓dn_lsub, ↓dn_lmul, ↓dn_ldiv, ↓dn_lrem, ↓dn_land, ↓dn_l2i, ↓dn_neg, ↓dn_get, ↓dn_fix, ↓dn_ald, ↓dn_gld, ↓dn_yld, ↓dn_len, ↓dn_gln, ↓dn_cc, ↓dn_cb, ↓dn_and, ↓dn_or, ↓dn_not, ↓dn_cite, ↓dn_ec, ↓dn_ei, ↓dn_skip, ↓dn_seq, ↓dn_set, ↓dn_inc, ↓dn_putf, ↓dn_putz, ↓dn_ast, ↓dn_exp, ↓dn_if, ↓dn_ret, ↓dn_retz, ↓dn_retv, ↓dn_brk, ↓dn_cont, ↓dn_cs, ↓dn_sw, ↓dn_pop32, ↓dn_pop64, ↓dn_aop, ↓dn_call, ↓dn_max, ↓dn_min, ↓dn_acp, ↓dn_i2l, ↓dn_args0, ↓dn_args1, og_pad, og_ent, og_rlt, og_rle, og_rgt, og_rge, og_req, og_rne, og_padd, og_psub, og_pmul, List.getD_cons_zero, List.getD_cons_succ, List.set_cons_zero, List.set_cons_succ, List.length_cons, List.length_nil, List.cons_append, List.nil_append, List.replicate, List.append_nil, Nat.reduceAdd, Nat.reduceSub, Nat.reduceEqDiff, if_true, if_false, reduceIte, Int.reduceAdd, Int.reduceSub, Int.reduceMul, Int.reduceNeg, Int.reduceLT, Int.reduceLE, Int.cast_ofNat_Int, true_or, or_true, true_and, and_true, false_and, List.mem_cons, List.not_mem_nil, or_false, false_or, ne_eq, og_i32]
    have s0 := sIt_0 (P := P) (A := A) i
    have oi : okY (sIt P A i) := okY_it ho i (by omega)
    have hw := hY.2.1 g hg0 (by rw [s0.1]; exact hg1)
    refine ⟨fun hlt => ?_, fun hge => ?_⟩
    · apply s_Yard_isFilled hg0 (by omega)
      rw [hw.2.2.2]
      refine ⟨fun hx => ?_, fun hx => ?_⟩
      · exact ⟨i, rfl, hY, hF, hi, hno, Or.inl (by unfold sFill; simpa using iteP1 hx)⟩
      · have hf : sFill (sIt P A i) g = false := by unfold sFill; simpa using iteP0 hx
        refine s_Alm_pass (hasR_N (hasR_fr hR hF hs (by omega)) s0.2.1) hP hs (by omega) hY oi (by rw [s0.2.2]; omega) (fun h3 hY3 hF3 => ?_)
        refine ⟨by omega, og_nx_mk (by omega) ⟨by simp, hY3, frY_tr hF hF3, fun m hm => ?_⟩⟩
        by_cases e : m = i
        · subst e; exact hf
        · exact hno m (by omega)
    · exact ⟨i, rfl, hY, hF, hi, hno, Or.inr (by omega)⟩
  · rintro e2 h2 ⟨n, rfl, hY, hF, hn, hno, hor⟩
    simp -implicitDefEqProofs only [↓dn_den, ↓dn_loc, ↓dn_k, ↓dn_add, ↓dn_sub, ↓dn_mul, ↓dn_div, ↓dn_rem, ↓dn_bop, ↓dn_ladd, ↓dn_lsub, ↓dn_lmul, ↓dn_ldiv, ↓dn_lrem, ↓dn_land, ↓dn_l2i, ↓dn_neg, ↓dn_get, ↓dn_fix, ↓dn_ald, ↓dn_gld, ↓dn_yld, ↓dn_len, ↓dn_gln, ↓dn_cc, ↓dn_cb, ↓dn_and, ↓dn_or, ↓dn_not, ↓dn_cite, ↓dn_ec, ↓dn_ei, ↓dn_skip, ↓dn_seq, ↓dn_set, ↓dn_inc, ↓dn_putf, ↓dn_putz, ↓dn_ast, ↓dn_exp, ↓dn_if, ↓dn_ret, ↓dn_retz, ↓dn_retv, ↓dn_brk, ↓dn_cont, ↓dn_cs, ↓dn_sw, ↓dn_pop32, ↓dn_pop64, ↓dn_aop, ↓dn_call, ↓dn_max, ↓dn_min, ↓dn_acp, ↓dn_i2l, ↓dn_args0, ↓dn_args1, og_pad, og_ent, og_rlt, og_rle, og_rgt, og_rge, og_req, og_rne, og_padd, og_psub, og_pmul, List.getD_cons_zero, List.getD_cons_succ, List.set_cons_zero, List.set_cons_succ, List.length_cons, List.length_nil, List.cons_append, List.nil_append, List.replicate, List.append_nil, Nat.reduceAdd, Nat.reduceSub, Nat.reduceEqDiff, if_true, if_false, reduceIte, Int.reduceAdd, Int.reduceSub, Int.reduceMul, Int.reduceNeg, Int.reduceLT, Int.reduceLE, Int.cast_ofNat_Int, true_or, or_true, true_and, and_true, false_and, List.mem_cons, List.not_mem_nil, or_false, false_or, ne_eq, og_i32]
    have s0 := sIt_0 (P := P) (A := A) n
    have hw := hY.2.1 g hg0 (by rw [s0.1]; exact hg1)
    have hu := sFilled_un (P := P) (A := A) hno (by rw [hL]; exact hn) (by rw [hL]; exact hor)
    have em2 : h2 100 2 = A 0 2 := by rw [hF 100 2 (by decide) (by decide) (by decide)]; exact hy.1.2.2.1
    have em3 : h2 110 2 = A 0 2 + n := by rw [hY.1.2.2.1]; exact s0.2.2
    apply s_Yard_isFilled hg0 (by omega)
    rw [hw.2.2.2, em2, em3]
    refine ⟨fun hx => ⟨by omega, ?_⟩, fun hx => ?_⟩
    · have hf : sFill (sIt P A n) g = true := by unfold sFill; simpa using iteP1 hx
      rw [if_pos hf] at hu
      have e : A 0 2 + (n : Int) - A 0 2 = n := by omega
      rw [e, ← hu]
      exact hK h2 hF
    · have hf : ¬ sFill (sIt P A n) g = true := by unfold sFill; simpa using iteP0 hx
      rw [if_neg hf] at hu
      rw [← hu]
      exact hK h2 hF
end
