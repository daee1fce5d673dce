-- enemies: rows of feet
def nxF (G : Int) : List Int → Option (List Int)
  | [] => none
  | x :: r => match nxF G r with
    | some r' => some (x :: r')
    | none => if x + 1 < G then some ((x + 1) :: r.map (fun _ => x + 1)) else none
def nxI (G : Int) : Nat → List Int → Bool
  | 0, _ => false
  | k + 1, d => match nxF G d with
    | none => true
    | some d' => nxI G k d'
theorem nxI_all : ∀ n, n < 5 → ∀ G, G < 7 → nxI ((G : Nat) : Int) 126 (List.replicate n 0) = true := by decide +kernel
theorem nxF_no {G : Int} : ∀ d : List Int, (∀ j : Nat, j < d.length → ¬ d.getD j 0 + 1 < G) → nxF G d = none
  | [], _ => rfl
  | x :: r, h => by
    have h1 := nxF_no (G := G) r (fun j hj => by have := h (j + 1) (by simpa using hj); simpa using this)
    have h0 := h 0 (by simp)
    unfold nxF
    rw [h1]
    exact if_neg (by simpa using h0)
theorem nxF_at {G : Int} : ∀ (d : List Int) (i : Nat), i < d.length → d.getD i 0 + 1 < G → (∀ j : Nat, i < j → j < d.length → ¬ d.getD j 0 + 1 < G) → ∃ d', nxF G d = some d' ∧ d'.length = d.length ∧ ∀ k : Nat, k < d.length → d'.getD k 0 = if k < i then d.getD k 0 else d.getD i 0 + 1
  | [], i, hi, _, _ => by simp at hi
  | x :: r, 0, hi, h1, h2 => by
    have hn := nxF_no (G := G) r (fun j hj => by have := h2 (j + 1) (by omega) (by simpa using hj); simpa using this)
    simp only [List.getD_cons_zero] at h1
    refine ⟨(x + 1) :: r.map (fun _ => x + 1), ?_, by simp, fun k hk => ?_⟩
    · unfold nxF; rw [hn]; exact if_pos h1
    · cases k with
      | zero => simp
      | succ k =>
        simp only [List.getD_cons_succ, List.getD_cons_zero]
        rw [if_neg (by omega), List.getD_eq_getElem?_getD, List.getElem?_map]
        have : k < r.length := by simpa using hk
        rw [List.getElem?_eq_getElem this]
        rfl
  | x :: r, i + 1, hi, h1, h2 => by
    simp only [List.getD_cons_succ] at h1
    obtain ⟨d', a, b, c⟩ := nxF_at r i (by simpa using hi) h1 (fun j hj hj2 => by have := h2 (j + 1) (by omega) (by simpa using hj2); simpa using this)
    refine ⟨x :: d', ?_, by simp [b], fun k hk => ?_⟩
    · unfold nxF; rw [a]
    · cases k with
      | zero => simp
      | succ k =>
        simp only [List.getD_cons_succ]
        rw [c k (by simpa using hk)]
        by_cases e : k < i
        · rw [if_pos e, if_pos (by omega)]
        · rw [if_neg e, if_neg (by omega)]
def dOK (G : Int) (d : List Int) : Prop := ∀ k : Nat, k < d.length → 0 ≤ d.getD k 0 ∧ d.getD k 0 < G
def footIs (h : Hp) (a : Int) (d : List Int) : Prop := ∀ k : Nat, k < d.length → h a (k : Int) = d.getD k 0
def sDig (A : Yd) : List Int → Option Yd
  | [] => some A
  | g :: r => if A 4 g = -1 ∧ A 2 g < 9 then sDig (sUp A 2 g (A 2 g + 1)) r else none
def sEf (P : Pr) (A : Yd) (d : List Int) : Int := match sDig A d with
  | some B => sTot P B 12
  | none => -1
def enU (f : List Int → Int) (d : List Int) (acc : Int × List Int) : Int × List Int := if acc.1 < f d then (f d, d) else acc
def sEn (f : List Int → Int) (G : Int) : Nat → List Int → Int × List Int → Int × List Int
  | 0, _, acc => acc
  | k + 1, d, acc => match nxF G d with
    | none => enU f d acc
    | some d' => sEn f G k d' (enU f d acc)
def sEnemy (P : Pr) (A : Yd) (n k : Int) : Int := if (1 ≤ n ∧ n ≤ 4) ∧ (-1 ≤ k ∧ k < n) ∧ A 0 2 + 12 ≤ 999 then (if 0 < A 0 0 then (if k = -1 ∨ (sEn (sEf P A) (A 0 0) 126 (List.replicate n.toNat 0) (-1, [])).1 = -1 then (sEn (sEf P A) (A 0 0) 126 (List.replicate n.toNat 0) (-1, [])).1 else (sEn (sEf P A) (A 0 0) 126 (List.replicate n.toNat 0) (-1, [])).2.getD k.toNat 0) else -1) else -1
theorem sDig_s {A : Yd} {d : List Int} {i : Nat} (hi : i < d.length) : sDig A (d.drop i) = if A 4 (d.getD i 0) = -1 ∧ A 2 (d.getD i 0) < 9 then sDig (sUp A 2 (d.getD i 0) (A 2 (d.getD i 0) + 1)) (d.drop (i + 1)) else none := by
  rw [List.drop_eq_getElem_cons hi, List.getD_eq_getElem?_getD, List.getElem?_eq_getElem hi]
  rfl
theorem okY_up2 {A : Yd} {k v : Int} (ho : okY A) (hv : 0 ≤ v ∧ v ≤ 9) : okY (sUp A 2 k v) := by
  have z : ∀ c' k', c' ≠ 2 → sUp A 2 k v c' k' = A c' k' := fun c' k' q => sUp_c q
  refine ⟨?_, fun k' k0 k1 => ?_, fun k' k0 k1 => ?_⟩
  · simp only [z _ _ (show (0 : Int) ≠ 2 by decide)]; exact ho.1
  · rw [z 0 0 (by decide)] at k1
    have := ho.2.1 k' k0 k1
    rw [z 1 _ (by decide), z 3 _ (by decide), z 4 _ (by decide), z 0 _ (by decide)]
    by_cases e : k' = k
    · subst e; rw [sUp_eq]; omega
    · rw [sUp_k e]; omega
  · rw [z 0 1 (by decide)] at k1
    have := ho.2.2 k' k0 k1
    rw [z 5 _ (by decide), z 6 _ (by decide), z 7 _ (by decide), z 8 _ (by decide)]
    exact this
/-- dug: the same but for depths -/
def sameG (A B : Yd) : Prop := okY B ∧ ∀ c k, c ≠ 2 → B c k = A c k
theorem sameG_up {A B : Yd} {g : Int} (h : sameG A B) (h2 : 0 ≤ g ∧ g < A 0 0) (h9 : B 2 g < 9) : sameG A (sUp B 2 g (B 2 g + 1)) := by
  have := h.1.2.1 g h2.1 (by rw [h.2 0 0 (by decide)]; exact h2.2)
  exact ⟨okY_up2 h.1 (by omega), fun c k hc => by rw [sUp_c hc]; exact h.2 c k hc⟩
theorem enU_ge {f : List Int → Int} {d : List Int} {acc : Int × List Int} (h : -1 ≤ acc.1) (hl : acc.1 ≠ -1 → acc.2.length = d.length) : -1 ≤ (enU f d acc).1 ∧ ((enU f d acc).1 ≠ -1 → (enU f d acc).2.length = d.length) := by
  unfold enU
  split
  · exact ⟨by dsimp only; omega, fun _ => rfl⟩
  · exact ⟨h, hl⟩
theorem hasR_S {h h' : Hp} {s N : Int} {P : Pr} (hR : hasR h s N P) (hf : frS h h') (hs : 10 < s) (hs2 : s + 3 < 100) (h19 : 19 ≤ s) : hasR h' s N P := fun n r r0 r1 => isR_eq (hR n r r0 r1) (fun i k p q => hf i k (by omega))
section
variable {h : Hp} {A : Yd} {P : Pr} {K : Int → Hp → Prop}
theorem s_Out_isDug {n : Int} {d : List Int} (hn : 1 ≤ n ∧ n ≤ 4) (hl : (d.length : Int) = n) (hd : dOK (A 0 0) d) (hf : footIs h 12 d) (hy : isY h 110 A) (ho : okY A)
    (hK0 : sDig A d = none → ∀ h', frY 110 h h' → K 0 h') (hK1 : ∀ B, sDig A d = some B → sameG A B → ∀ h', isY h' 110 B → frY 110 h h' → K 1 h') : m_Outlook_isDug [10, n] h K := by
  have h6 := ho.1
  unfold m_Outlook_isDug
  simp -implicitDefEqProofs only [↓dn_den, ↓dn_loc, ↓dn_k, ↓dn_add, ↓dn_sub, ↓dn_mul, ↓dn_div, ↓dn_rem, ↓dn_bop, ↓dn_ladd, ↓dn_lsub, ↓dn_lmul, ↓dn_ldiv, ↓dn_lrem, ↓dn_land, ↓dn_l2i, ↓dn_neg, ↓dn_get, ↓dn_fix, ↓dn_ald, ↓dn_gld, ↓dn_yld, ↓dn_len, ↓dn_gln, ↓dn_cc, ↓dn_cb, ↓dn_and, ↓dn_or, ↓dn_not, ↓dn_cite, ↓dn_ec, ↓dn_ei, ↓dn_skip, ↓dn_seq, ↓dn_set, ↓dn_inc, ↓dn_putf, ↓dn_putz, ↓dn_ast, ↓dn_exp, ↓dn_if, ↓dn_ret, ↓dn_retz, ↓dn_retv, ↓dn_brk, ↓dn_cont, ↓dn_cs, ↓dn_sw, ↓dn_pop32, ↓dn_pop64, ↓dn_aop, ↓dn_call, ↓dn_max, ↓dn_min, ↓dn_acp, ↓dn_i2l, ↓dn_args0, ↓dn_args1, og_pad, og_ent, og_rlt, og_rle, og_rgt, og_rge, og_req, og_rne, og_padd, og_psub, og_pmul, List.getD_cons_zero, List.getD_cons_succ, List.set_cons_zero, List.set_cons_succ, List.length_cons, List.length_nil, List.cons_append, List.nil_append, List.replicate, List.append_nil, Nat.reduceAdd, Nat.reduceSub, Nat.reduceEqDiff, if_true, if_false, reduceIte, Int.reduceAdd, Int.reduceSub, Int.reduceMul, Int.reduceNeg, Int.reduceLT, Int.reduceLE, Int.cast_ofNat_Int, true_or, or_true, true_and, and_true, false_and, List.mem_cons, List.not_mem_nil, or_false, false_or, ne_eq, og_i32]
  refine ⟨fun e1 h1 => ∃ B, sDig A d = some B ∧ sameG A B ∧ isY h1 110 B ∧ frY 110 h h1, ?_, ?_⟩
  · simp -implicitDefEqProofs only [↓dn_den, ↓dn_loc, ↓dn_k, ↓dn_add, ↓dn_sub, ↓dn_mul, ↓dn_div, ↓dn_rem, ↓dn_bop, ↓dn_ladd, ↓dn_lsub, ↓dn_lmul, ↓dn_ldiv, ↓dn_lrem, ↓dn_land, ↓dn_l2i, ↓dn_neg, ↓dn_get, ↓dn_fix, ↓dn_ald, ↓dn_gld, ↓dn_yld, ↓dn_len, ↓dn_gln, ↓dn_cc, ↓dn_cb, ↓dn_and, ↓dn_or, ↓dn_not, ↓dn_cite, ↓dn_ec, ↓dn_ei, ↓dn_skip, ↓dn_seq, ↓dn_set, ↓dn_inc, ↓dn_putf, ↓dn_putz, ↓dn_ast, ↓dn_exp, ↓dn_if, ↓dn_ret, ↓dn_retz, ↓dn_retv, ↓dn_brk, ↓dn_cont, ↓dn_cs, ↓dn_sw, ↓dn_pop32, ↓dn_pop64, ↓dn_aop, ↓dn_call, ↓dn_max, ↓dn_min, ↓dn_acp, ↓dn_i2l, ↓dn_args0, ↓dn_args1, og_pad, og_ent, og_rlt, og_rle, og_rgt, og_rge, og_req, og_rne, og_padd, og_psub, og_pmul, List.getD_cons_zero, List.getD_cons_succ, List.set_cons_zero, List.set_cons_succ, List.length_cons, List.length_nil, List.cons_append, List.nil_append, List.replicate, List.append_nil, Nat.reduceAdd, Nat.reduceSub, Nat.reduceEqDiff, if_true, if_false, reduceIte, Int.reduceAdd, Int.reduceSub, Int.reduceMul, Int.reduceNeg, Int.reduceLT, Int.reduceLE, Int.cast_ofNat_Int, true_or, or_true, true_and, and_true, false_and, List.mem_cons, List.not_mem_nil, or_false, false_or, ne_eq]
    refine og_loop d.length (fun i e1 h1 => e1 = [10, n, (i : Int)] ∧ ∃ B, sDig A d = sDig B (d.drop i) ∧ sameG A B ∧ isY h1 110 B ∧ frY 110 h h1) ⟨rfl, A, rfl, ⟨ho, fun _ _ _ => rfl⟩, hy, frY_rf⟩ ?_
    rintro i e1 h1 hi ⟨rfl, B, hB, hsB, hyB, hF⟩
    simp -implicitDefEqProofs only [↓dn_den, ↓dn_loc, ↓dn_k, ↓dn_add, ↓dn_sub, ↓dn_mul, ↓dn_div, ↓dn_rem, ↓dn_bop, ↓dn_ladd, ↓dn_lsub, ↓dn_lmul, ↓dn_ldiv, ↓dn_lrem, ↓dn_land, ↓dn_l2i, ↓dn_neg, ↓dn_get, ↓dn_fix, ↓dn_ald, ↓dn_gld, ↓dn_yld, ↓dn_len, ↓dn_gln, ↓dn_cc, ↓dn_cb, ↓dn_and, ↓dn_or, ↓dn_not, ↓dn_cite, ↓dn_ec, ↓dn_ei, ↓dn_skip, ↓dn_seq, ↓dn_set, ↓dn_inc, ↓dn_putf, ↓dn_putz, ↓dn_ast, ↓dn_exp, ↓dn_if, ↓dn_ret, ↓dn_retz, ↓dn_retv, ↓dn_brk, ↓dn_cont, ↓dn_cs, ↓dn_sw, ↓dn_pop32, ↓dn_pop64, ↓dn_aop, ↓dn_call, ↓dn_max, ↓dn_min, ↓dn_acp, ↓dn_i2l, ↓dn_args0, ↓dn_args1, og_pad, og_ent, og_rlt, og_rle, og_rgt, og_rge, og_req, og_rne, og_padd, og_psub, og_pmul, List.getD_cons_zero, List.getD_cons_succ, List.set_cons_zero, List.set_cons_succ, List.length_cons, List.length_nil, List.cons_append, List.nil_append, List.replicate, List.append_nil, Nat.reduceAdd, Nat.reduceSub, Nat.reduceEqDiff, if_true, if_false, reduceIte, Int.reduceAdd, Int.reduceSub, Int.reduceMul, Int.reduceNeg, Int.reduceLT, Int.reduceLE, Int.cast_ofNat_Int, true_or, or_true, true_and, and_true, false_and, List.mem_cons, List.not_mem_nil, or_false, false_or, ne_eq, og_i32]
    refine ⟨fun hlt => ?_, fun hge => ?_⟩
    · have hi' : i < d.length := by omega
      have hdi := hd i hi'
      have e12 : h1 12 i = d.getD i 0 := by rw [hF 12 i (by decide) (by decide) (by decide)]; exact hf i hi'
      rw [e12]
      have hw := hyB.2.1 (d.getD i 0) hdi.1 (by rw [hsB.2 0 0 (by decide)]; exact hdi.2)
      refine ⟨by omega, by omega, ?_⟩
      apply s_Yard_canBeDug hdi.1 (by omega)
      rw [hw.2.2.2, hw.2.1]
      rw [sDig_s hi'] at hB
      refine ⟨fun hz => ?_, fun hz => ?_⟩
      · have hq := iteP1 hz
        rw [if_pos hq] at hB
        have e112 : h1 112 (d.getD i 0) = B 2 (d.getD i 0) := hw.2.1
        rw [e12, e112]
        have o2 := hsB.1.2.1 (d.getD i 0) hdi.1 (by rw [hsB.2 0 0 (by decide)]; exact hdi.2)
        refine ⟨by omega, by omega, by omega, by omega, by omega, by omega, og_nx_mk hi' ⟨by simp, _, hB, sameG_up hsB hdi hq.2, ?_, ?_⟩⟩
        · exact isY_up (y := 110) (c := 2) (by decide) hyB
        · exact frY_up (y := 110) (c := 2) (by decide) hF
      · have hq := iteP0 hz
        rw [if_neg hq] at hB
        exact hK0 hB h1 hF
    · have e : i = d.length := by omega
      subst e
      rw [List.drop_length] at hB
      exact ⟨B, hB, hsB, hyB, hF⟩
  · rintro e1 h1 ⟨B, hB, hsB, hyB, hF⟩
    simp -implicitDefEqProofs only [↓dn_den, ↓dn_loc, ↓dn_k, ↓dn_add, ↓dn_sub, ↓dn_mul, ↓dn_div, ↓dn_rem, ↓dn_bop, ↓dn_ladd, ↓dn_lsub, ↓dn_lmul, ↓dn_ldiv, ↓dn_lrem, ↓dn_land, ↓dn_l2i, ↓dn_neg, ↓dn_get, ↓dn_fix, ↓dn_ald, ↓dn_gld, ↓dn_yld, ↓dn_len, ↓dn_gln, ↓dn_cc, ↓dn_cb, ↓dn_and, ↓dn_or, ↓dn_not, ↓dn_cite, ↓dn_ec, ↓dn_ei, ↓dn_skip, ↓dn_seq, ↓dn_set, ↓dn_inc, ↓dn_putf, ↓dn_putz, ↓dn_ast, ↓dn_exp, ↓dn_if, ↓dn_ret, ↓dn_retz, ↓dn_retv, ↓dn_brk, ↓dn_cont, ↓dn_cs, ↓dn_sw, ↓dn_pop32, ↓dn_pop64, ↓dn_aop, ↓dn_call, ↓dn_max, ↓dn_min, ↓dn_acp, ↓dn_i2l, ↓dn_args0, ↓dn_args1, og_pad, og_ent, og_rlt, og_rle, og_rgt, og_rge, og_req, og_rne, og_padd, og_psub, og_pmul, List.getD_cons_zero, List.getD_cons_succ, List.set_cons_zero, List.set_cons_succ, List.length_cons, List.length_nil, List.cons_append, List.nil_append, List.replicate, List.append_nil, Nat.reduceAdd, Nat.reduceSub, Nat.reduceEqDiff, if_true, if_false, reduceIte, Int.reduceAdd, Int.reduceSub, Int.reduceMul, Int.reduceNeg, Int.reduceLT, Int.reduceLE, Int.cast_ofNat_Int, true_or, or_true, true_and, and_true, false_and, List.mem_cons, List.not_mem_nil, or_false, false_or, ne_eq]
    exact hK1 B hB hsB h1 hyB hF
theorem s_Out_nextFeet {n G : Int} {d : List Int} (hn : 1 ≤ n ∧ n ≤ 4) (hl : (d.length : Int) = n) (hd : dOK G d) (hf : footIs h 12 d) (hG : G ≤ 6)
    (hK0 : nxF G d = none → K 0 h) (hK1 : ∀ d', nxF G d = some d' → d'.length = d.length → dOK G d' → ∀ h', footIs h' 12 d' → (∀ i k, i ≠ 12 → h' i k = h i k) → K 1 h') : m_Outlook_nextFeet [10, n, G] h K := by
  unfold m_Outlook_nextFeet
  simp -implicitDefEqProofs only [↓dn_den, ↓dn_loc, ↓dn_k, ↓dn_add, ↓dn_sub, ↓dn_mul, ↓dn_div, ↓dn_rem, ↓dn_bop, ↓dn_ladd, ↓dn_lsub, ↓dn_lmul, ↓dn_ldiv, ↓dn_lrem, ↓dn_land, ↓dn_l2i, ↓dn_neg, ↓dn_get, ↓dn_fix, ↓dn_ald, ↓dn_gld, ↓dn_yld, ↓dn_len, ↓dn_gln, ↓dn_cc, ↓dn_cb, ↓dn_and, ↓dn_or, ↓dn_not, ↓dn_cite, ↓dn_ec, ↓dn_ei, ↓dn_skip, ↓dn_seq, ↓dn_set, ↓dn_inc, ↓dn_putf, ↓dn_putz, ↓dn_ast, ↓dn_exp, ↓dn_if, ↓dn_ret, ↓dn_retz, ↓dn_retv, ↓dn_brk, ↓dn_cont, ↓dn_cs, ↓dn_sw, ↓dn_pop32, ↓dn_pop64, ↓dn_aop, ↓dn_call, ↓dn_max, ↓dn_min, ↓dn_acp, ↓dn_i2l, ↓dn_args0, ↓dn_args1, og_pad, og_ent, og_rlt, og_rle, og_rgt, og_rge, og_req, og_rne, og_padd, og_psub, og_pmul, List.getD_cons_zero, List.getD_cons_succ, List.set_cons_zero, List.set_cons_succ, List.length_cons, List.length_nil, List.cons_append, List.nil_append, List.replicate, List.append_nil, Nat.reduceAdd, Nat.reduceSub, Nat.reduceEqDiff, if_true, if_false, reduceIte, Int.reduceAdd, Int.reduceSub, Int.reduceMul, Int.reduceNeg, Int.reduceLT, Int.reduceLE, Int.cast_ofNat_Int, true_or, or_true, true_and, and_true, false_and, List.mem_cons, List.not_mem_nil, or_false, false_or, ne_eq, og_i32]
  refine ⟨fun e1 h1 => h1 = h ∧ nxF G d = none, ?_, ?_⟩
  · simp -implicitDefEqProofs only [↓dn_den, ↓dn_loc, ↓dn_k, ↓dn_add, ↓dn_sub, ↓dn_mul, ↓dn_div, ↓dn_rem, ↓dn_bop, ↓dn_ladd, ↓dn_lsub, ↓dn_lmul, ↓dn_ldiv, ↓dn_lrem, ↓dn_land, ↓dn_l2i, ↓dn_neg, ↓dn_get, ↓dn_fix, ↓dn_ald, ↓dn_gld, ↓dn_yld, ↓dn_len, ↓dn_gln, ↓dn_cc, ↓dn_cb, ↓dn_and, ↓dn_or, ↓dn_not, ↓dn_cite, ↓dn_ec, ↓dn_ei, ↓dn_skip, ↓dn_seq, ↓dn_set, ↓dn_inc, ↓dn_putf, ↓dn_putz, ↓dn_ast, ↓dn_exp, ↓dn_if, ↓dn_ret, ↓dn_retz, ↓dn_retv, ↓dn_brk, ↓dn_cont, ↓dn_cs, ↓dn_sw, ↓dn_pop32, ↓dn_pop64, ↓dn_aop, ↓dn_call, ↓dn_max, ↓dn_min, ↓dn_acp, ↓dn_i2l, ↓dn_args0, ↓dn_args1, og_pad, og_ent, og_rlt, og_rle, og_rgt, og_rge, og_req, og_rne, og_padd, og_psub, og_pmul, List.getD_cons_zero, List.getD_cons_succ, List.set_cons_zero, List.set_cons_succ, List.length_cons, List.length_nil, List.cons_append, List.nil_append, List.replicate, List.append_nil, Nat.reduceAdd, Nat.reduceSub, Nat.reduceEqDiff, if_true, if_false, reduceIte, Int.reduceAdd, Int.reduceSub, Int.reduceMul, Int.reduceNeg, Int.reduceLT, Int.reduceLE, Int.cast_ofNat_Int, true_or, or_true, true_and, and_true, false_and, List.mem_cons, List.not_mem_nil, or_false, false_or, ne_eq, og_i32]
    refine ⟨by omega, ?_⟩
    refine og_loop d.length (fun t e1 h1 => (∃ c4 c5, e1 = [10, n, G, n - 1 - t, c4, c5]) ∧ h1 = h ∧ ∀ j : Nat, n - 1 - t < j → j < d.length → ¬ d.getD j 0 + 1 < G) ⟨⟨0, 0, by simp⟩, rfl, fun j a b => by omega⟩ ?_
    rintro t e1 h1 ht ⟨⟨c4, c5, rfl⟩, rfl, hno⟩
    simp -implicitDefEqProofs only [↓dn_den, ↓dn_loc, ↓dn_k, ↓dn_add, ↓dn_sub, ↓dn_mul, ↓dn_div, ↓dn_rem, ↓dn_bop, ↓dn_ladd, ↓dn_lsub, ↓dn_lmul, ↓dn_ldiv, ↓dn_lrem, ↓dn_land, ↓dn_l2i, ↓dn_neg, ↓dn_get, ↓dn_fix, ↓dn_ald, ↓dn_gld, ↓dn_yld, ↓dn_len, ↓dn_gln, ↓dn_cc, ↓dn_cb, ↓dn_and, ↓dn_or, ↓dn_not, ↓dn_cite, ↓dn_ec, ↓dn_ei, ↓dn_skip, ↓dn_seq, ↓dn_set, ↓dn_inc, ↓dn_putf, ↓dn_putz, ↓dn_ast, ↓dn_exp, ↓dn_if, ↓dn_ret, ↓dn_retz, ↓dn_retv, ↓dn_brk, ↓dn_cont, ↓dn_cs, ↓dn_sw, ↓dn_pop32, ↓dn_pop64, ↓dn_aop, ↓dn_call, ↓dn_max, ↓dn_min, ↓dn_acp, ↓dn_i2l, ↓dn_args0, ↓dn_args1, og_pad, og_ent, og_rlt, og_rle, og_rgt, og_rge, og_req, og_rne, og_padd, og_psub, og_pmul, List.getD_cons_zero, List.getD_cons_succ, List.set_cons_zero, List.set_cons_succ, List.length_cons, List.length_nil, List.cons_append, List.nil_append, List.replicate, List.append_nil, Nat.reduceAdd, Nat.reduceSub, Nat.reduceEqDiff, if_true, if_false, reduceIte, Int.reduceAdd, Int.reduceSub, Int.reduceMul, Int.reduceNeg, Int.reduceLT, Int.reduceLE, Int.cast_ofNat_Int, true_or, or_true, true_and, and_true, false_and, List.mem_cons, List.not_mem_nil, or_false, false_or, ne_eq, og_i32]
    refine ⟨fun hge => ?_, fun hlt => ?_⟩
    · have hi' : (n - 1 - t).toNat < d.length := by omega
      have hdi := hd _ hi'
      have e12 := hf _ hi'
      have ei : (((n - 1 - t).toNat : Nat) : Int) = n - 1 - t := by omega
      rw [ei] at e12
      rw [e12]
      generalize hx : d.getD (n - 1 - t).toNat 0 = x at *
      refine ⟨by omega, by omega, by omega, fun hg => ?_, fun hg => ?_⟩
      · obtain ⟨d', a, b, c⟩ := nxF_at (G := G) d (n - 1 - t).toNat hi' (by rw [hx]; exact hg) (fun j a b => hno j (by omega) b)
        refine ⟨by omega, by omega, by omega, ?_⟩
        refine ⟨fun e3 h3 => footIs h3 12 d' ∧ ∀ i k, i ≠ 12 → h3 i k = h1 i k, ?_, ?_⟩
        · simp -implicitDefEqProofs only [↓dn_den, ↓dn_loc, ↓dn_k, ↓dn_add, ↓dn_sub, ↓dn_mul, ↓dn_div, ↓dn_rem, ↓dn_bop, ↓dn_ladd, ↓dn_lsub, ↓dn_lmul, ↓dn_ldiv, ↓dn_lrem, ↓dn_land, ↓dn_l2i, ↓dn_neg, ↓dn_get, ↓dn_fix, ↓dn_ald, ↓dn_gld, ↓dn_yld, ↓dn_len, ↓dn_gln, ↓dn_cc, ↓dn_cb, ↓dn_and, ↓dn_or, ↓dn_not, ↓dn_cite, ↓dn_ec, ↓dn_ei, ↓dn_skip, ↓dn_seq, ↓dn_set, ↓dn_inc, ↓dn_putf, ↓dn_putz, ↓dn_ast, ↓dn_exp, ↓dn_if, ↓dn_ret, ↓dn_retz, ↓dn_retv, ↓dn_brk, ↓dn_cont, ↓dn_cs, ↓dn_sw, ↓dn_pop32, ↓dn_pop64, ↓dn_aop, ↓dn_call, ↓dn_max, ↓dn_min, ↓dn_acp, ↓dn_i2l, ↓dn_args0, ↓dn_args1, og_pad, og_ent, og_rlt, og_rle, og_rgt, og_rge, og_req, og_rne, og_padd, og_psub, og_pmul, List.getD_cons_zero, List.getD_cons_succ, List.set_cons_zero, List.set_cons_succ, List.length_cons, List.length_nil, List.cons_append, List.nil_append, List.replicate, List.append_nil, Nat.reduceAdd, Nat.reduceSub, Nat.reduceEqDiff, if_true, if_false, reduceIte, Int.reduceAdd, Int.reduceSub, Int.reduceMul, Int.reduceNeg, Int.reduceLT, Int.reduceLE, Int.cast_ofNat_Int, true_or, or_true, true_and, and_true, false_and, List.mem_cons, List.not_mem_nil, or_false, false_or, ne_eq]
          refine og_loop (d.length - (n - 1 - t).toNat) (fun q e3 h3 => e3 = [10, n, G, n - 1 - t, x + 1, n - 1 - t + q] ∧ (∀ i k, i ≠ 12 → h3 i k = h1 i k) ∧ ∀ k : Nat, k < d.length → h3 12 k = if (n - 1 - t).toNat ≤ k ∧ (k : Int) < n - 1 - t + q then x + 1 else d.getD k 0) ⟨by simp, fun _ _ _ => rfl, fun k hk => ?_⟩ ?_
          · rw [if_neg (by omega)]; exact hf k hk
          rintro q e3 h3 hq ⟨rfl, hfr, hv⟩
          simp -implicitDefEqProofs only [↓dn_den, ↓dn_loc, ↓dn_k, ↓dn_add, ↓dn_sub, ↓dn_mul, ↓dn_div, ↓dn_rem, ↓dn_bop, ↓dn_ladd, ↓dn_lsub, ↓dn_lmul, ↓dn_ldiv, ↓dn_lrem, ↓dn_land, ↓dn_l2i, ↓dn_neg, ↓dn_get, ↓dn_fix, ↓dn_ald, ↓dn_gld, ↓dn_yld, ↓dn_len, ↓dn_gln, ↓dn_cc, ↓dn_cb, ↓dn_and, ↓dn_or, ↓dn_not, ↓dn_cite, ↓dn_ec, ↓dn_ei, ↓dn_skip, ↓dn_seq, ↓dn_set, ↓dn_inc, ↓dn_putf, ↓dn_putz, ↓dn_ast, ↓dn_exp, ↓dn_if, ↓dn_ret, ↓dn_retz, ↓dn_retv, ↓dn_brk, ↓dn_cont, ↓dn_cs, ↓dn_sw, ↓dn_pop32, ↓dn_pop64, ↓dn_aop, ↓dn_call, ↓dn_max, ↓dn_min, ↓dn_acp, ↓dn_i2l, ↓dn_args0, ↓dn_args1, og_pad, og_ent, og_rlt, og_rle, og_rgt, og_rge, og_req, og_rne, og_padd, og_psub, og_pmul, List.getD_cons_zero, List.getD_cons_succ, List.set_cons_zero, List.set_cons_succ, List.length_cons, List.length_nil, List.cons_append, List.nil_append, List.replicate, List.append_nil, Nat.reduceAdd, Nat.reduceSub, Nat.reduceEqDiff, if_true, if_false, reduceIte, Int.reduceAdd, Int.reduceSub, Int.reduceMul, Int.reduceNeg, Int.reduceLT, Int.reduceLE, Int.cast_ofNat_Int, true_or, or_true, true_and, and_true, false_and, List.mem_cons, List.not_mem_nil, or_false, false_or, ne_eq, og_i32]
          refine ⟨fun hlt => ?_, fun hge => ?_⟩
          · refine ⟨by omega, by omega, by omega, og_nx_mk (by omega) ⟨by simp; omega, fun i k hi => by rw [og_up_i hi]; exact hfr i k hi, fun k hk => ?_⟩⟩
            by_cases e : (k : Int) = n - 1 - t + q
            · rw [e, og_up_eq, if_pos (by omega)]
            · rw [og_up_k e, hv k hk]
              by_cases z : (n - 1 - t).toNat ≤ k ∧ (k : Int) < n - 1 - t + q
              · rw [if_pos z, if_pos (by omega)]
              · rw [if_neg z, if_neg (by omega)]
          · refine ⟨fun k hk => ?_, hfr⟩
            rw [b] at hk
            rw [hv k hk, c k hk, hx]
            by_cases z : k < (n - 1 - t).toNat
            · rw [if_neg (by omega), if_pos z]
            · rw [if_pos (by omega), if_neg z]
        · rintro e3 h3 ⟨q1, q2⟩
          simp -implicitDefEqProofs only [↓dn_den, ↓dn_loc, ↓dn_k, ↓dn_add, ↓dn_sub, ↓dn_mul, ↓dn_div, ↓dn_rem, ↓dn_bop, ↓dn_ladd, ↓dn_lsub, ↓dn_lmul, ↓dn_ldiv, ↓dn_lrem, ↓dn_land, ↓dn_l2i, ↓dn_neg, ↓dn_get, ↓dn_fix, ↓dn_ald, ↓dn_gld, ↓dn_yld, ↓dn_len, ↓dn_gln, ↓dn_cc, ↓dn_cb, ↓dn_and, ↓dn_or, ↓dn_not, ↓dn_cite, ↓dn_ec, ↓dn_ei, ↓dn_skip, ↓dn_seq, ↓dn_set, ↓dn_inc, ↓dn_putf, ↓dn_putz, ↓dn_ast, ↓dn_exp, ↓dn_if, ↓dn_ret, ↓dn_retz, ↓dn_retv, ↓dn_brk, ↓dn_cont, ↓dn_cs, ↓dn_sw, ↓dn_pop32, ↓dn_pop64, ↓dn_aop, ↓dn_call, ↓dn_max, ↓dn_min, ↓dn_acp, ↓dn_i2l, ↓dn_args0, ↓dn_args1, og_pad, og_ent, og_rlt, og_rle, og_rgt, og_rge, og_req, og_rne, og_padd, og_psub, og_pmul, List.getD_cons_zero, List.getD_cons_succ, List.set_cons_zero, List.set_cons_succ, List.length_cons, List.length_nil, List.cons_append, List.nil_append, List.replicate, List.append_nil, Nat.reduceAdd, Nat.reduceSub, Nat.reduceEqDiff, if_true, if_false, reduceIte, Int.reduceAdd, Int.reduceSub, Int.reduceMul, Int.reduceNeg, Int.reduceLT, Int.reduceLE, Int.cast_ofNat_Int, true_or, or_true, true_and, and_true, false_and, List.mem_cons, List.not_mem_nil, or_false, false_or, ne_eq]
          refine hK1 d' a b (fun k hk => ?_) h3 q1 q2
          rw [b] at hk
          rw [c k hk]
          have := hd k hk
          rw [hx]
          split <;> omega
      · refine ⟨by omega, og_nx_mk (by omega) ⟨⟨c4, c5, ?_⟩, rfl, fun j a b => ?_⟩⟩
        · simp; omega
        · by_cases e : (j : Int) = n - 1 - t
          · have : j = (n - 1 - t).toNat := by omega
            rw [this, hx]; exact hg
          · exact hno j (by omega) b
    · exact nxF_no d (fun j hj => hno j (by omega) hj)
  · rintro e1 h1 ⟨rfl, hz⟩
    simp -implicitDefEqProofs only [↓dn_den, ↓dn_loc, ↓dn_k, ↓dn_add, ↓dn_sub, ↓dn_mul, ↓dn_div, ↓dn_rem, ↓dn_bop, ↓dn_ladd, ↓dn_lsub, ↓dn_lmul, ↓dn_ldiv, ↓dn_lrem, ↓dn_land, ↓dn_l2i, ↓dn_neg, ↓dn_get, ↓dn_fix, ↓dn_ald, ↓dn_gld, ↓dn_yld, ↓dn_len, ↓dn_gln, ↓dn_cc, ↓dn_cb, ↓dn_and, ↓dn_or, ↓dn_not, ↓dn_cite, ↓dn_ec, ↓dn_ei, ↓dn_skip, ↓dn_seq, ↓dn_set, ↓dn_inc, ↓dn_putf, ↓dn_putz, ↓dn_ast, ↓dn_exp, ↓dn_if, ↓dn_ret, ↓dn_retz, ↓dn_retv, ↓dn_brk, ↓dn_cont, ↓dn_cs, ↓dn_sw, ↓dn_pop32, ↓dn_pop64, ↓dn_aop, ↓dn_call, ↓dn_max, ↓dn_min, ↓dn_acp, ↓dn_i2l, ↓dn_args0, ↓dn_args1, og_pad, og_ent, og_rlt, og_rle, og_rgt, og_rge, og_req, og_rne, og_padd, og_psub, og_pmul, List.getD_cons_zero, List.getD_cons_succ, List.set_cons_zero, List.set_cons_succ, List.length_cons, List.length_nil, List.cons_append, List.nil_append, List.replicate, List.append_nil, Nat.reduceAdd, Nat.reduceSub, Nat.reduceEqDiff, if_true, if_false, reduceIte, Int.reduceAdd, Int.reduceSub, Int.reduceMul, Int.reduceNeg, Int.reduceLT, Int.reduceLE, Int.cast_ofNat_Int, true_or, or_true, true_and, and_true, false_and, List.mem_cons, List.not_mem_nil, or_false, false_or, ne_eq]
    exact hK0 hz
def mtJ (h : Hp) (P : Pr) (A : Yd) (s n : Int) (i : Nat) (e1 : List Int) (h1 : Hp) : Prop := ∃ (m : (Int × List Int) × Int) (c7 : Int), e1 = [10, s, 100, n, m.1.1, m.2, (i : Int), c7] ∧ frS h h1 ∧ -1 ≤ m.1.1 ∧ (m.1.1 ≠ -1 → footIs h1 13 m.1.2 ∧ (m.1.2.length : Int) = n) ∧ ((m.2 = (1 : Int) ∧ ∃ d, (d.length : Int) = n ∧ dOK (A 0 0) d ∧ footIs h1 12 d ∧ nxI (A 0 0) (126 - i) d = true ∧ sEn (sEf P A) (A 0 0) (126 - i) d m.1 = sEn (sEf P A) (A 0 0) 126 (List.replicate n.toNat 0) (-1, [])) ∨ (m.2 = 0 ∧ m.1 = sEn (sEf P A) (A 0 0) 126 (List.replicate n.toNat 0) (-1, [])))
theorem s_Out_mostTaken {s n : Int} (hR : hasR h s (A 0 1) P) (hP : okP P) (hs : 10 < s) (hs2 : s + 3 < 100) (h19 : 19 ≤ s) (hy : isY h 100 A) (ho : okY A) (hm : A 0 2 + 12 ≤ 999) (hn : 1 ≤ n ∧ n ≤ 4)
    (hK0 : ¬ 0 < A 0 0 → ∀ h', frS h h' → K (-1) h') (hK1 : ∀ m : Int × List Int, 0 < A 0 0 → m = sEn (sEf P A) (A 0 0) 126 (List.replicate n.toNat 0) (-1, []) → ∀ h', frS h h' → (m.1 ≠ -1 → footIs h' 13 m.2 ∧ (m.2.length : Int) = n) → K m.1 h') : m_Outlook_mostTaken [10, s, 100, n] h K := by
  have h6 := ho.1
  unfold m_Outlook_mostTaken
  simp -implicitDefEqProofs only [↓dn_den, ↓dn_loc, ↓dn_k, ↓dn_add, ↓dn_sub, ↓dn_mul, ↓dn_div, ↓dn_rem, ↓dn_bop, ↓dn_ladd, ↓dn_lsub, ↓dn_lmul, ↓dn_ldiv, ↓dn_lrem, ↓dn_land, ↓dn_l2i, ↓dn_neg, ↓dn_get, ↓dn_fix, ↓dn_ald, ↓dn_gld, ↓dn_yld, ↓dn_len, ↓dn_gln, ↓dn_cc, ↓dn_cb, ↓dn_and, ↓dn_or, ↓dn_not, ↓dn_cite, ↓dn_ec, ↓dn_ei, ↓dn_skip, ↓dn_seq, ↓dn_set, ↓dn_inc, ↓dn_putf, ↓dn_putz, ↓dn_ast, ↓dn_exp, ↓dn_if, ↓dn_ret, ↓dn_retz, ↓dn_retv, ↓dn_brk, ↓dn_cont, ↓dn_cs, ↓dn_sw, ↓dn_pop32, ↓dn_pop64, ↓dn_aop, ↓dn_call, ↓dn_max, ↓dn_min, ↓dn_acp, ↓dn_i2l, ↓dn_args0, ↓dn_args1, og_pad, og_ent, og_rlt, og_rle, og_rgt, og_rge, og_req, og_rne, og_padd, og_psub, og_pmul, List.getD_cons_zero, List.getD_cons_succ, List.set_cons_zero, List.set_cons_succ, List.length_cons, List.length_nil, List.cons_append, List.nil_append, List.replicate, List.append_nil, Nat.reduceAdd, Nat.reduceSub, Nat.reduceEqDiff, if_true, if_false, reduceIte, Int.reduceAdd, Int.reduceSub, Int.reduceMul, Int.reduceNeg, Int.reduceLT, Int.reduceLE, Int.cast_ofNat_Int, true_or, or_true, true_and, and_true, false_and, List.mem_cons, List.not_mem_nil, or_false, false_or, ne_eq, og_i32]
  refine ⟨fun e1 h1 => e1 = [10, s, 100, n, 4, 0, 0, 0] ∧ (∀ i k, i ≠ 12 → h1 i k = h i k) ∧ ∀ k : Nat, k < 4 → h1 12 k = 0, ?_, ?_⟩
  · simp -implicitDefEqProofs only [↓dn_den, ↓dn_loc, ↓dn_k, ↓dn_add, ↓dn_sub, ↓dn_mul, ↓dn_div, ↓dn_rem, ↓dn_bop, ↓dn_ladd, ↓dn_lsub, ↓dn_lmul, ↓dn_ldiv, ↓dn_lrem, ↓dn_land, ↓dn_l2i, ↓dn_neg, ↓dn_get, ↓dn_fix, ↓dn_ald, ↓dn_gld, ↓dn_yld, ↓dn_len, ↓dn_gln, ↓dn_cc, ↓dn_cb, ↓dn_and, ↓dn_or, ↓dn_not, ↓dn_cite, ↓dn_ec, ↓dn_ei, ↓dn_skip, ↓dn_seq, ↓dn_set, ↓dn_inc, ↓dn_putf, ↓dn_putz, ↓dn_ast, ↓dn_exp, ↓dn_if, ↓dn_ret, ↓dn_retz, ↓dn_retv, ↓dn_brk, ↓dn_cont, ↓dn_cs, ↓dn_sw, ↓dn_pop32, ↓dn_pop64, ↓dn_aop, ↓dn_call, ↓dn_max, ↓dn_min, ↓dn_acp, ↓dn_i2l, ↓dn_args0, ↓dn_args1, og_pad, og_ent, og_rlt, og_rle, og_rgt, og_rge, og_req, og_rne, og_padd, og_psub, og_pmul, List.getD_cons_zero, List.getD_cons_succ, List.set_cons_zero, List.set_cons_succ, List.length_cons, List.length_nil, List.cons_append, List.nil_append, List.replicate, List.append_nil, Nat.reduceAdd, Nat.reduceSub, Nat.reduceEqDiff, if_true, if_false, reduceIte, Int.reduceAdd, Int.reduceSub, Int.reduceMul, Int.reduceNeg, Int.reduceLT, Int.reduceLE, Int.cast_ofNat_Int, true_or, or_true, true_and, and_true, false_and, List.mem_cons, List.not_mem_nil, or_false, false_or, ne_eq]
    refine og_loop 4 (fun i e1 h1 => e1 = [10, s, 100, n, (i : Int), 0, 0, 0] ∧ (∀ i k, i ≠ 12 → h1 i k = h i k) ∧ ∀ k : Nat, k < i → h1 12 k = 0) ⟨rfl, fun _ _ _ => rfl, fun k hk => by omega⟩ ?_
    rintro i e1 h1 hi ⟨rfl, hfr, hz⟩
    simp -implicitDefEqProofs only [↓dn_den, ↓dn_loc, ↓dn_k, ↓dn_add, ↓dn_sub, ↓dn_mul, ↓dn_div, ↓dn_rem, ↓dn_bop, ↓dn_ladd, ↓dn_lsub, ↓dn_lmul, ↓dn_ldiv, ↓dn_lrem, ↓dn_land, ↓dn_l2i, ↓dn_neg, ↓dn_get, ↓dn_fix, ↓dn_ald, ↓dn_gld, ↓dn_yld, ↓dn_len, ↓dn_gln, ↓dn_cc, ↓dn_cb, ↓dn_and, ↓dn_or, ↓dn_not, ↓dn_cite, ↓dn_ec, ↓dn_ei, ↓dn_skip, ↓dn_seq, ↓dn_set, ↓dn_inc, ↓dn_putf, ↓dn_putz, ↓dn_ast, ↓dn_exp, ↓dn_if, ↓dn_ret, ↓dn_retz, ↓dn_retv, ↓dn_brk, ↓dn_cont, ↓dn_cs, ↓dn_sw, ↓dn_pop32, ↓dn_pop64, ↓dn_aop, ↓dn_call, ↓dn_max, ↓dn_min, ↓dn_acp, ↓dn_i2l, ↓dn_args0, ↓dn_args1, og_pad, og_ent, og_rlt, og_rle, og_rgt, og_rge, og_req, og_rne, og_padd, og_psub, og_pmul, List.getD_cons_zero, List.getD_cons_succ, List.set_cons_zero, List.set_cons_succ, List.length_cons, List.length_nil, List.cons_append, List.nil_append, List.replicate, List.append_nil, Nat.reduceAdd, Nat.reduceSub, Nat.reduceEqDiff, if_true, if_false, reduceIte, Int.reduceAdd, Int.reduceSub, Int.reduceMul, Int.reduceNeg, Int.reduceLT, Int.reduceLE, Int.cast_ofNat_Int, true_or, or_true, true_and, and_true, false_and, List.mem_cons, List.not_mem_nil, or_false, false_or, ne_eq, og_i32]
    refine ⟨fun hlt => ?_, fun hge => ?_⟩
    · refine ⟨by omega, by omega, by omega, og_nx_mk (by omega) ⟨by simp, fun j k hj => by rw [og_up_i hj]; exact hfr j k hj, fun k hk => ?_⟩⟩
      by_cases e : k = i
      · subst e; rw [og_up_eq]
      · rw [og_up_k (by omega)]; exact hz k (by omega)
    · have e : i = 4 := by omega
      subst e
      exact ⟨rfl, hfr, hz⟩
  · rintro e1 h1 ⟨rfl, hfr, hz⟩
    simp -implicitDefEqProofs only [↓dn_den, ↓dn_loc, ↓dn_k, ↓dn_add, ↓dn_sub, ↓dn_mul, ↓dn_div, ↓dn_rem, ↓dn_bop, ↓dn_ladd, ↓dn_lsub, ↓dn_lmul, ↓dn_ldiv, ↓dn_lrem, ↓dn_land, ↓dn_l2i, ↓dn_neg, ↓dn_get, ↓dn_fix, ↓dn_ald, ↓dn_gld, ↓dn_yld, ↓dn_len, ↓dn_gln, ↓dn_cc, ↓dn_cb, ↓dn_and, ↓dn_or, ↓dn_not, ↓dn_cite, ↓dn_ec, ↓dn_ei, ↓dn_skip, ↓dn_seq, ↓dn_set, ↓dn_inc, ↓dn_putf, ↓dn_putz, ↓dn_ast, ↓dn_exp, ↓dn_if, ↓dn_ret, ↓dn_retz, ↓dn_retv, ↓dn_brk, ↓dn_cont, ↓dn_cs, ↓dn_sw, ↓dn_pop32, ↓dn_pop64, ↓dn_aop, ↓dn_call, ↓dn_max, ↓dn_min, ↓dn_acp, ↓dn_i2l, ↓dn_args0, ↓dn_args1, og_pad, og_ent, og_rlt, og_rle, og_rgt, og_rge, og_req, og_rne, og_padd, og_psub, og_pmul, List.getD_cons_zero, List.getD_cons_succ, List.set_cons_zero, List.set_cons_succ, List.length_cons, List.length_nil, List.cons_append, List.nil_append, List.replicate, List.append_nil, Nat.reduceAdd, Nat.reduceSub, Nat.reduceEqDiff, if_true, if_false, reduceIte, Int.reduceAdd, Int.reduceSub, Int.reduceMul, Int.reduceNeg, Int.reduceLT, Int.reduceLE, Int.cast_ofNat_Int, true_or, or_true, true_and, and_true, false_and, List.mem_cons, List.not_mem_nil, or_false, false_or, ne_eq]
    have e0 : h1 100 0 = A 0 0 := by rw [hfr _ _ (by decide)]; exact hy.1.1
    rw [e0]
    have hS1 : frS h h1 := fun i k z => hfr i k (by omega)
    refine ⟨fun hg => ?_, fun hg => ?_⟩
    · refine ⟨fun e2 h2 => ∃ i, mtJ h P A s n i e2 h2 ∧ e2.getD 5 0 = 0, ?_, ?_⟩
      · simp -implicitDefEqProofs only [↓dn_den, ↓dn_loc, ↓dn_k, ↓dn_add, ↓dn_sub, ↓dn_mul, ↓dn_div, ↓dn_rem, ↓dn_bop, ↓dn_ladd, ↓dn_lsub, ↓dn_lmul, ↓dn_ldiv, ↓dn_lrem, ↓dn_land, ↓dn_l2i, ↓dn_neg, ↓dn_get, ↓dn_fix, ↓dn_ald, ↓dn_gld, ↓dn_yld, ↓dn_len, ↓dn_gln, ↓dn_cc, ↓dn_cb, ↓dn_and, ↓dn_or, ↓dn_not, ↓dn_cite, ↓dn_ec, ↓dn_ei, ↓dn_skip, ↓dn_seq, ↓dn_set, ↓dn_inc, ↓dn_putf, ↓dn_putz, ↓dn_ast, ↓dn_exp, ↓dn_if, ↓dn_ret, ↓dn_retz, ↓dn_retv, ↓dn_brk, ↓dn_cont, ↓dn_cs, ↓dn_sw, ↓dn_pop32, ↓dn_pop64, ↓dn_aop, ↓dn_call, ↓dn_max, ↓dn_min, ↓dn_acp, ↓dn_i2l, ↓dn_args0, ↓dn_args1, og_pad, og_ent, og_rlt, og_rle, og_rgt, og_rge, og_req, og_rne, og_padd, og_psub, og_pmul, List.getD_cons_zero, List.getD_cons_succ, List.set_cons_zero, List.set_cons_succ, List.length_cons, List.length_nil, List.cons_append, List.nil_append, List.replicate, List.append_nil, Nat.reduceAdd, Nat.reduceSub, Nat.reduceEqDiff, if_true, if_false, reduceIte, Int.reduceAdd, Int.reduceSub, Int.reduceMul, Int.reduceNeg, Int.reduceLT, Int.reduceLE, Int.cast_ofNat_Int, true_or, or_true, true_and, and_true, false_and, List.mem_cons, List.not_mem_nil, or_false, false_or, ne_eq]
        have hnx : nxI (A 0 0) 126 (List.replicate n.toNat 0) = true := by
          have := nxI_all n.toNat (by omega) (A 0 0).toNat (by omega)
          rwa [Int.toNat_of_nonneg (by omega)] at this
        refine og_loop 126 (mtJ h P A s n) ⟨((-1, []), 1), 0, rfl, hS1, by decide, fun z => absurd rfl z, Or.inl ⟨rfl, List.replicate n.toNat 0, by simp; omega, fun k hk => ?_, fun k hk => ?_, hnx, rfl⟩⟩ ?_
        · simp only [List.length_replicate] at hk
          rw [List.getD_eq_getElem?_getD, List.getElem?_replicate, if_pos hk]; exact ⟨by decide, hg⟩
        · simp only [List.length_replicate] at hk
          rw [hz k (by omega), List.getD_eq_getElem?_getD, List.getElem?_replicate, if_pos hk]; rfl
        rintro i e2 h2 hi ⟨⟨acc, more⟩, c7, rfl, hS, hge, hw, hor⟩
        simp -implicitDefEqProofs only [↓dn_den, ↓dn_loc, ↓dn_k, ↓dn_add, ↓dn_sub, ↓dn_mul, ↓dn_div, ↓dn_rem, ↓dn_bop, ↓dn_ladd, ↓dn_lsub, ↓dn_lmul, ↓dn_ldiv, ↓dn_lrem, ↓dn_land, ↓dn_l2i, ↓dn_neg, ↓dn_get, ↓dn_fix, ↓dn_ald, ↓dn_gld, ↓dn_yld, ↓dn_len, ↓dn_gln, ↓dn_cc, ↓dn_cb, ↓dn_and, ↓dn_or, ↓dn_not, ↓dn_cite, ↓dn_ec, ↓dn_ei, ↓dn_skip, ↓dn_seq, ↓dn_set, ↓dn_inc, ↓dn_putf, ↓dn_putz, ↓dn_ast, ↓dn_exp, ↓dn_if, ↓dn_ret, ↓dn_retz, ↓dn_retv, ↓dn_brk, ↓dn_cont, ↓dn_cs, ↓dn_sw, ↓dn_pop32, ↓dn_pop64, ↓dn_aop, ↓dn_call, ↓dn_max, ↓dn_min, ↓dn_acp, ↓dn_i2l, ↓dn_args0, ↓dn_args1, og_pad, og_ent, og_rlt, og_rle, og_rgt, og_rge, og_req, og_rne, og_padd, og_psub, og_pmul, List.getD_cons_zero, List.getD_cons_succ, List.set_cons_zero, List.set_cons_succ, List.length_cons, List.length_nil, List.cons_append, List.nil_append, List.replicate, List.append_nil, Nat.reduceAdd, Nat.reduceSub, Nat.reduceEqDiff, if_true, if_false, reduceIte, Int.reduceAdd, Int.reduceSub, Int.reduceMul, Int.reduceNeg, Int.reduceLT, Int.reduceLE, Int.cast_ofNat_Int, true_or, or_true, true_and, and_true, false_and, List.mem_cons, List.not_mem_nil, or_false, false_or, ne_eq, og_i32]
        have out : more = 0 → ∃ j, mtJ h P A s n j [10, s, 100, n, acc.1, more, (i : Int), c7] h2 ∧ more = 0 := fun z => ⟨i, ⟨(acc, more), c7, rfl, hS, hge, hw, hor⟩, z⟩
        rcases hor with ⟨hm1, d, hdl, hdo, hdf, hdn, hde⟩ | ⟨hm0, hacc⟩
        · dsimp only at hm1
          subst hm1
          have hi126 : i < 126 := by
            cases q : 126 - i with
            | zero => rw [q] at hdn; cases hdn
            | succ k => omega
          have eq126 : 126 - i = (126 - (i + 1)) + 1 := by omega
          rw [eq126] at hdn hde
          refine ⟨fun _ => ⟨fun _ => ?_, fun z => absurd z (by decide)⟩, fun z => absurd (by omega) z⟩
          have hy2 : isY h2 100 A := isY_fr hy (fun i k a b => hS i k (by omega))
          refine s_Yard_become (by omega) hy2 ho (fun h3 hY3 hF3 => ?_)
          have hS3 := frS_tr hS (frS_Y hF3)
          have hdf3 : footIs h3 12 d := fun k hk => by rw [hF3 12 k (by decide) (by decide) (by decide)]; exact hdf k hk
          have hw3 : acc.1 ≠ -1 → footIs h3 13 acc.2 ∧ (acc.2.length : Int) = n := fun z => ⟨fun k hk => by rw [hF3 13 k (by decide) (by decide) (by decide)]; exact (hw z).1 k hk, (hw z).2⟩
          have fin : ∀ (t : Int) (h4 : Hp), t = sEf P A d → frY 110 h3 h4 → ∃ P_1 : List Int → Hp → Prop, (t > acc.1 → P_1 [10, s, 100, n, t, 1, (i : Int), t] (og_cp h4 12 0 13 0 4)) ∧ (¬ t > acc.1 → P_1 [10, s, 100, n, acc.1, 1, (i : Int), t] h4) ∧ ∀ e1 h1, P_1 e1 h1 → (∃ more, e1 = [10, s, 100, n, (enU (sEf P A) d acc).1, more, (i : Int), t]) ∧ frS h h1 ∧ footIs h1 12 d ∧ ((enU (sEf P A) d acc).1 ≠ -1 → footIs h1 13 (enU (sEf P A) d acc).2 ∧ ((enU (sEf P A) d acc).2.length : Int) = n) := by
            intro t h4 ht hF4
            subst ht
            have hS4 := frS_tr hS3 (frS_Y hF4)
            have hdf4 : footIs h4 12 d := fun k hk => by rw [hF4 12 k (by decide) (by decide) (by decide)]; exact hdf3 k hk
            refine ⟨fun e1 h1 => (∃ more, e1 = [10, s, 100, n, (enU (sEf P A) d acc).1, more, (i : Int), sEf P A d]) ∧ frS h h1 ∧ footIs h1 12 d ∧ ((enU (sEf P A) d acc).1 ≠ -1 → footIs h1 13 (enU (sEf P A) d acc).2 ∧ ((enU (sEf P A) d acc).2.length : Int) = n), fun hgt => ?_, fun hgt => ?_, fun e1 h1 hh => hh⟩
            · have e : enU (sEf P A) d acc = (sEf P A d, d) := by unfold enU; exact if_pos hgt
              rw [e]
              refine ⟨⟨1, rfl⟩, fun j k hj => ?_, fun k hk => ?_, fun _ => ⟨fun k hk => ?_, hdl⟩⟩
              · rw [og_cp_i (by omega)]; exact hS4 j k hj
              · rw [og_cp_i (by decide)]; exact hdf4 k hk
              · have hk : k < d.length := hk
                rw [og_cp_in (by omega) (by omega)]; exact hdf4 k hk
            · have e : enU (sEf P A) d acc = acc := by unfold enU; exact if_neg hgt
              rw [e]
              exact ⟨⟨1, rfl⟩, hS4, hdf4, fun z => ⟨fun k hk => by rw [hF4 13 k (by decide) (by decide) (by decide)]; exact (hw3 z).1 k hk, (hw3 z).2⟩⟩
          have fin2 : ∀ (t : Int) (h4 : Hp), t = sEf P A d → frY 110 h3 h4 → og_cut (og_if (og_cc og_rgt (og_loc 7) (og_loc 4)) (og_seq (og_set 4 (og_loc 7)) (og_acp 4 4 (og_fix (fun _ => 12) (og_loc 0)) (og_k 0) (og_fix (fun _ => 13) (og_loc 0)) (og_k 0) (og_k 4))) (og_skip)) (og_set 5 (og_call m_Outlook_nextFeet [og_loc 0, og_loc 3, og_get 0 (og_loc 2)])) [10, s, 100, n, acc.1, 1, (i : Int), t] h4 (fun e3 h3 => og_i32 (e3.getD 6 0 + 1) ∧ og_nx 126 (mtJ h P A s n) i (e3.set 6 (e3.getD 6 0 + 1)) h3) K (fun e1 h1 => ∃ i, mtJ h P A s n i e1 h1 ∧ e1.getD 5 0 = 0) (fun e3 h3 => og_i32 (e3.getD 6 0 + 1) ∧ og_nx 126 (mtJ h P A s n) i (e3.set 6 (e3.getD 6 0 + 1)) h3) := by
            intro t h4 ht hF4
            obtain ⟨PP, p1, p2, p3⟩ := fin t h4 ht hF4
            refine ⟨PP, ?_, ?_⟩
            · simp -implicitDefEqProofs only [↓dn_den, ↓dn_loc, ↓dn_k, ↓dn_add, ↓dn_sub, ↓dn_mul, ↓dn_div, ↓dn_rem, ↓dn_bop, ↓dn_ladd, ↓dn_lsub, ↓dn_lmul, ↓dn_ldiv, ↓dn_lrem, ↓dn_land, ↓dn_l2i, ↓dn_neg, ↓dn_get, ↓dn_fix, ↓dn_ald, ↓dn_gld, ↓dn_yld, ↓dn_len, ↓dn_gln, ↓dn_cc, ↓dn_cb, ↓dn_and, ↓dn_or, ↓dn_not, ↓dn_cite, ↓dn_ec, ↓dn_ei, ↓dn_skip, ↓dn_seq, ↓dn_set, ↓dn_inc, ↓dn_putf, ↓dn_putz, ↓dn_ast, ↓dn_exp, ↓dn_if, ↓dn_ret, ↓dn_retz, ↓dn_retv, ↓dn_brk, ↓dn_cont, ↓dn_cs, ↓dn_sw, ↓dn_pop32, ↓dn_pop64, ↓dn_aop, ↓dn_call, ↓dn_max, ↓dn_min, ↓dn_acp, ↓dn_i2l, ↓dn_args0, ↓dn_args1, og_pad, og_ent, og_rlt, og_rle, og_rgt, og_rge, og_req, og_rne, og_padd, og_psub, og_pmul, List.getD_cons_zero, List.getD_cons_succ, List.set_cons_zero, List.set_cons_succ, List.length_cons, List.length_nil, List.cons_append, List.nil_append, List.replicate, List.append_nil, Nat.reduceAdd, Nat.reduceSub, Nat.reduceEqDiff, if_true, if_false, reduceIte, Int.reduceAdd, Int.reduceSub, Int.reduceMul, Int.reduceNeg, Int.reduceLT, Int.reduceLE, Int.cast_ofNat_Int, true_or, or_true, true_and, and_true, false_and, List.mem_cons, List.not_mem_nil, or_false, false_or, ne_eq]
              exact ⟨fun z => p1 z, fun z => p2 z⟩
            · rintro e5 h5 hPP
              obtain ⟨⟨more, rfl⟩, hS5, hdf5, hw5⟩ := p3 e5 h5 hPP
              simp -implicitDefEqProofs only [↓dn_den, ↓dn_loc, ↓dn_k, ↓dn_add, ↓dn_sub, ↓dn_mul, ↓dn_div, ↓dn_rem, ↓dn_bop, ↓dn_ladd, ↓dn_lsub, ↓dn_lmul, ↓dn_ldiv, ↓dn_lrem, ↓dn_land, ↓dn_l2i, ↓dn_neg, ↓dn_get, ↓dn_fix, ↓dn_ald, ↓dn_gld, ↓dn_yld, ↓dn_len, ↓dn_gln, ↓dn_cc, ↓dn_cb, ↓dn_and, ↓dn_or, ↓dn_not, ↓dn_cite, ↓dn_ec, ↓dn_ei, ↓dn_skip, ↓dn_seq, ↓dn_set, ↓dn_inc, ↓dn_putf, ↓dn_putz, ↓dn_ast, ↓dn_exp, ↓dn_if, ↓dn_ret, ↓dn_retz, ↓dn_retv, ↓dn_brk, ↓dn_cont, ↓dn_cs, ↓dn_sw, ↓dn_pop32, ↓dn_pop64, ↓dn_aop, ↓dn_call, ↓dn_max, ↓dn_min, ↓dn_acp, ↓dn_i2l, ↓dn_args0, ↓dn_args1, og_pad, og_ent, og_rlt, og_rle, og_rgt, og_rge, og_req, og_rne, og_padd, og_psub, og_pmul, List.getD_cons_zero, List.getD_cons_succ, List.set_cons_zero, List.set_cons_succ, List.length_cons, List.length_nil, List.cons_append, List.nil_append, List.replicate, List.append_nil, Nat.reduceAdd, Nat.reduceSub, Nat.reduceEqDiff, if_true, if_false, reduceIte, Int.reduceAdd, Int.reduceSub, Int.reduceMul, Int.reduceNeg, Int.reduceLT, Int.reduceLE, Int.cast_ofNat_Int, true_or, or_true, true_and, and_true, false_and, List.mem_cons, List.not_mem_nil, or_false, false_or, ne_eq, og_i32]
              have e50 : h5 100 0 = A 0 0 := by rw [hS5 _ _ (by decide)]; exact hy.1.1
              rw [e50]
              have ge5 := enU_ge (f := sEf P A) (d := d) hge (fun z => by have := (hw z).2; omega)
              refine s_Out_nextFeet hn hdl hdo hdf5 (by omega) (fun hnone => ?_) (fun d' hsome hl' hdo' h6 hdf6 hfr6 => ?_)
              · refine ⟨by omega, og_nx_mk hi126 ⟨(enU (sEf P A) d acc, 0), t, by simp, hS5, ge5.1, hw5, Or.inr ⟨rfl, ?_⟩⟩⟩
                rw [← hde]
                unfold sEn
                rw [hnone]
              · refine ⟨by omega, og_nx_mk hi126 ⟨(enU (sEf P A) d acc, 1), t, by simp, fun j k hj => ?_, ge5.1, fun z => ⟨fun k hk => ?_, (hw5 z).2⟩, Or.inl ⟨rfl, d', by omega, hdo', hdf6, ?_, ?_⟩⟩⟩
                · rw [hfr6 j k (by omega)]; exact hS5 j k hj
                · rw [hfr6 _ _ (by decide)]; exact (hw5 z).1 k hk
                · unfold nxI at hdn; rw [hsome] at hdn; exact hdn
                · rw [← hde]
                  conv => rhs; unfold sEn
                  rw [hsome]
          simp -implicitDefEqProofs only [↓dn_den, ↓dn_loc, ↓dn_k, ↓dn_add, ↓dn_sub, ↓dn_mul, ↓dn_div, ↓dn_rem, ↓dn_bop, ↓dn_ladd, ↓dn_lsub, ↓dn_lmul, ↓dn_ldiv, ↓dn_lrem, ↓dn_land, ↓dn_l2i, ↓dn_neg, ↓dn_get, ↓dn_fix, ↓dn_ald, ↓dn_gld, ↓dn_yld, ↓dn_len, ↓dn_gln, ↓dn_cc, ↓dn_cb, ↓dn_and, ↓dn_or, ↓dn_not, ↓dn_cite, ↓dn_ec, ↓dn_ei, ↓dn_skip, ↓dn_seq, ↓dn_set, ↓dn_inc, ↓dn_putf, ↓dn_putz, ↓dn_ast, ↓dn_exp, ↓dn_if, ↓dn_ret, ↓dn_retz, ↓dn_retv, ↓dn_brk, ↓dn_cont, ↓dn_cs, ↓dn_sw, ↓dn_pop32, ↓dn_pop64, ↓dn_aop, ↓dn_call, ↓dn_max, ↓dn_min, ↓dn_acp, ↓dn_i2l, ↓dn_args0, ↓dn_args1, og_pad, og_ent, og_rlt, og_rle, og_rgt, og_rge, og_req, og_rne, og_padd, og_psub, og_pmul, List.getD_cons_zero, List.getD_cons_succ, List.set_cons_zero, List.set_cons_succ, List.length_cons, List.length_nil, List.cons_append, List.nil_append, List.replicate, List.append_nil, Nat.reduceAdd, Nat.reduceSub, Nat.reduceEqDiff, if_true, if_false, reduceIte, Int.reduceAdd, Int.reduceSub, Int.reduceMul, Int.reduceNeg, Int.reduceLT, Int.reduceLE, Int.cast_ofNat_Int, true_or, or_true, true_and, and_true, false_and, List.mem_cons, List.not_mem_nil, or_false, false_or, ne_eq, og_i32] at fin2
          refine s_Out_isDug hn hdl hdo hdf3 hY3 ho (fun hnone h4 hF4 => ?_) (fun B hsome hsB h4 hY4 hF4 => ?_)
          · refine ⟨fun z => absurd rfl z, fun _ => ?_⟩
            exact fin2 (-1) h4 (by unfold sEf; rw [hnone]) hF4
          · refine ⟨fun _ => ?_, fun z => absurd z (by decide)⟩
            have e2 : B 0 2 = A 0 2 := hsB.2 0 2 (by decide)
            refine s_Out_takenBehind (hasR_N (hasR_fr (hasR_S hR hS3 hs hs2 h19) hF4 hs (by omega)) (hsB.2 0 1 (by decide))) hP hs (by omega) hY4 hsB.1 (by decide) (by omega) (by omega) (fun h5 B5 _ _ _ hF5 => ?_)
            exact fin2 _ h5 (by unfold sEf; rw [hsome]; rfl) (frY_tr hF4 hF5)
        · dsimp only at hm0
          exact ⟨fun _ => ⟨fun z => absurd hm0 z, fun z => out hm0⟩, fun _ => out hm0⟩
      · rintro e2 h2 ⟨i, ⟨⟨acc, more⟩, c7, rfl, hS, hge, hw, hor⟩, h5⟩
        simp -implicitDefEqProofs only [↓dn_den, ↓dn_loc, ↓dn_k, ↓dn_add, ↓dn_sub, ↓dn_mul, ↓dn_div, ↓dn_rem, ↓dn_bop, ↓dn_ladd, ↓dn_lsub, ↓dn_lmul, ↓dn_ldiv, ↓dn_lrem, ↓dn_land, ↓dn_l2i, ↓dn_neg, ↓dn_get, ↓dn_fix, ↓dn_ald, ↓dn_gld, ↓dn_yld, ↓dn_len, ↓dn_gln, ↓dn_cc, ↓dn_cb, ↓dn_and, ↓dn_or, ↓dn_not, ↓dn_cite, ↓dn_ec, ↓dn_ei, ↓dn_skip, ↓dn_seq, ↓dn_set, ↓dn_inc, ↓dn_putf, ↓dn_putz, ↓dn_ast, ↓dn_exp, ↓dn_if, ↓dn_ret, ↓dn_retz, ↓dn_retv, ↓dn_brk, ↓dn_cont, ↓dn_cs, ↓dn_sw, ↓dn_pop32, ↓dn_pop64, ↓dn_aop, ↓dn_call, ↓dn_max, ↓dn_min, ↓dn_acp, ↓dn_i2l, ↓dn_args0, ↓dn_args1, og_pad, og_ent, og_rlt, og_rle, og_rgt, og_rge, og_req, og_rne, og_padd, og_psub, og_pmul, List.getD_cons_zero, List.getD_cons_succ, List.set_cons_zero, List.set_cons_succ, List.length_cons, List.length_nil, List.cons_append, List.nil_append, List.replicate, List.append_nil, Nat.reduceAdd, Nat.reduceSub, Nat.reduceEqDiff, if_true, if_false, reduceIte, Int.reduceAdd, Int.reduceSub, Int.reduceMul, Int.reduceNeg, Int.reduceLT, Int.reduceLE, Int.cast_ofNat_Int, true_or, or_true, true_and, and_true, false_and, List.mem_cons, List.not_mem_nil, or_false, false_or, ne_eq] at h5 ⊢
        rcases hor with ⟨hm1, -⟩ | ⟨hm0, hacc⟩
        · dsimp only at hm1; omega
        · exact hK1 acc hg hacc h2 hS hw
    · refine ⟨fun e2 h2 => frS h h2 ∧ e2.getD 4 0 = -1, ?_, ?_⟩
      · simp -implicitDefEqProofs only [↓dn_den, ↓dn_loc, ↓dn_k, ↓dn_add, ↓dn_sub, ↓dn_mul, ↓dn_div, ↓dn_rem, ↓dn_bop, ↓dn_ladd, ↓dn_lsub, ↓dn_lmul, ↓dn_ldiv, ↓dn_lrem, ↓dn_land, ↓dn_l2i, ↓dn_neg, ↓dn_get, ↓dn_fix, ↓dn_ald, ↓dn_gld, ↓dn_yld, ↓dn_len, ↓dn_gln, ↓dn_cc, ↓dn_cb, ↓dn_and, ↓dn_or, ↓dn_not, ↓dn_cite, ↓dn_ec, ↓dn_ei, ↓dn_skip, ↓dn_seq, ↓dn_set, ↓dn_inc, ↓dn_putf, ↓dn_putz, ↓dn_ast, ↓dn_exp, ↓dn_if, ↓dn_ret, ↓dn_retz, ↓dn_retv, ↓dn_brk, ↓dn_cont, ↓dn_cs, ↓dn_sw, ↓dn_pop32, ↓dn_pop64, ↓dn_aop, ↓dn_call, ↓dn_max, ↓dn_min, ↓dn_acp, ↓dn_i2l, ↓dn_args0, ↓dn_args1, og_pad, og_ent, og_rlt, og_rle, og_rgt, og_rge, og_req, og_rne, og_padd, og_psub, og_pmul, List.getD_cons_zero, List.getD_cons_succ, List.set_cons_zero, List.set_cons_succ, List.length_cons, List.length_nil, List.cons_append, List.nil_append, List.replicate, List.append_nil, Nat.reduceAdd, Nat.reduceSub, Nat.reduceEqDiff, if_true, if_false, reduceIte, Int.reduceAdd, Int.reduceSub, Int.reduceMul, Int.reduceNeg, Int.reduceLT, Int.reduceLE, Int.cast_ofNat_Int, true_or, or_true, true_and, and_true, false_and, List.mem_cons, List.not_mem_nil, or_false, false_or, ne_eq]
        refine og_loop 1 (fun i e2 h2 => e2 = [10, s, 100, n, -1, 0, 0, 0] ∧ h2 = h1) ⟨rfl, rfl⟩ ?_
        rintro i e2 h2 hi ⟨rfl, rfl⟩
        simp -implicitDefEqProofs only [↓dn_den, ↓dn_loc, ↓dn_k, ↓dn_add, ↓dn_sub, ↓dn_mul, ↓dn_div, ↓dn_rem, ↓dn_bop, ↓dn_ladd, ↓dn_lsub, ↓dn_lmul, ↓dn_ldiv, ↓dn_lrem, ↓dn_land, ↓dn_l2i, ↓dn_neg, ↓dn_get, ↓dn_fix, ↓dn_ald, ↓dn_gld, ↓dn_yld, ↓dn_len, ↓dn_gln, ↓dn_cc, ↓dn_cb, ↓dn_and, ↓dn_or, ↓dn_not, ↓dn_cite, ↓dn_ec, ↓dn_ei, ↓dn_skip, ↓dn_seq, ↓dn_set, ↓dn_inc, ↓dn_putf, ↓dn_putz, ↓dn_ast, ↓dn_exp, ↓dn_if, ↓dn_ret, ↓dn_retz, ↓dn_retv, ↓dn_brk, ↓dn_cont, ↓dn_cs, ↓dn_sw, ↓dn_pop32, ↓dn_pop64, ↓dn_aop, ↓dn_call, ↓dn_max, ↓dn_min, ↓dn_acp, ↓dn_i2l, ↓dn_args0, ↓dn_args1, og_pad, og_ent, og_rlt, og_rle, og_rgt, og_rge, og_req, og_rne, og_padd, og_psub, og_pmul, List.getD_cons_zero, List.getD_cons_succ, List.set_cons_zero, List.set_cons_succ, List.length_cons, List.length_nil, List.cons_append, List.nil_append, List.replicate, List.append_nil, Nat.reduceAdd, Nat.reduceSub, Nat.reduceEqDiff, if_true, if_false, reduceIte, Int.reduceAdd, Int.reduceSub, Int.reduceMul, Int.reduceNeg, Int.reduceLT, Int.reduceLE, Int.cast_ofNat_Int, true_or, or_true, true_and, and_true, false_and, List.mem_cons, List.not_mem_nil, or_false, false_or, ne_eq]
        simpa using hS1
      · rintro e2 h2 ⟨hS, h4⟩
        simp -implicitDefEqProofs only [↓dn_den, ↓dn_loc, ↓dn_k, ↓dn_add, ↓dn_sub, ↓dn_mul, ↓dn_div, ↓dn_rem, ↓dn_bop, ↓dn_ladd, ↓dn_lsub, ↓dn_lmul, ↓dn_ldiv, ↓dn_lrem, ↓dn_land, ↓dn_l2i, ↓dn_neg, ↓dn_get, ↓dn_fix, ↓dn_ald, ↓dn_gld, ↓dn_yld, ↓dn_len, ↓dn_gln, ↓dn_cc, ↓dn_cb, ↓dn_and, ↓dn_or, ↓dn_not, ↓dn_cite, ↓dn_ec, ↓dn_ei, ↓dn_skip, ↓dn_seq, ↓dn_set, ↓dn_inc, ↓dn_putf, ↓dn_putz, ↓dn_ast, ↓dn_exp, ↓dn_if, ↓dn_ret, ↓dn_retz, ↓dn_retv, ↓dn_brk, ↓dn_cont, ↓dn_cs, ↓dn_sw, ↓dn_pop32, ↓dn_pop64, ↓dn_aop, ↓dn_call, ↓dn_max, ↓dn_min, ↓dn_acp, ↓dn_i2l, ↓dn_args0, ↓dn_args1, og_pad, og_ent, og_rlt, og_rle, og_rgt, og_rge, og_req, og_rne, og_padd, og_psub, og_pmul, List.getD_cons_zero, List.getD_cons_succ, List.set_cons_zero, List.set_cons_succ, List.length_cons, List.length_nil, List.cons_append, List.nil_append, List.replicate, List.append_nil, Nat.reduceAdd, Nat.reduceSub, Nat.reduceEqDiff, if_true, if_false, reduceIte, Int.reduceAdd, Int.reduceSub, Int.reduceMul, Int.reduceNeg, Int.reduceLT, Int.reduceLE, Int.cast_ofNat_Int, true_or, or_true, true_and, and_true, false_and, List.mem_cons, List.not_mem_nil, or_false, false_or, ne_eq]
        have := hK0 hg h2 hS
        rw [← h4] at this
        exact this
end
