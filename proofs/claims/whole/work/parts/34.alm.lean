-- months: the spec
abbrev Pr : Type := Int → List Int
def okP (P : Pr) : Prop := ∀ r, 8 ≤ r → r ≤ 12 → ∃ u, wtR (P r) [] = some [u] ∧ (r = 9 → u = true)
def hasR (h : Hp) (s N : Int) (P : Pr) : Prop := 0 < N → ∀ r, 8 ≤ r → r ≤ 12 → isR h s r (P r)
def sNg (A : Yd) : Nat := (A 0 0).toNat
def sNp (A : Yd) : Nat := (A 0 1).toNat
def sAsked (A : Yd) : Int := sCnt (sAsk A) (sNg A)
def sCome1 (P : Pr) (A : Yd) (p : Int) : Yd := if sLive A p = true ∧ sVal (P 9) A p (sAsked A) ≠ 0 ∧ sNext A p (sNg A) ≠ -1 then sBury A p (sNext A p (sNg A)) 0 else A
def sCome (P : Pr) (A : Yd) : Nat → Yd
  | 0 => A
  | n + 1 => sCome1 P (sCome P A n) (n : Int)
def sNear1 (A : Yd) (g : Int) : Yd := if sAsk A g = true then sUp A 3 g (max 0 (A 3 g - 1)) else A
def sNear (A : Yd) : Nat → Yd
  | 0 => A
  | n + 1 => sNear1 (sNear A n) (n : Int)
def sHeavy (W : Int → Int) (A : Yd) (g : Int) : Nat → Int
  | 0 => -1
  | n + 1 => if sLive A (n : Int) && sFit A (n : Int) g && (decide (sHeavy W A g n = -1) || decide (W (sHeavy W A g n) < W (n : Int))) then (n : Int) else sHeavy W A g n
def sTakes (A : Yd) (g : Int) (W : Int → Int) : Bool := sAsk A g && decide (A 3 g = 0) && decide (sHeavy W A g (sNp A) ≠ -1)
def sTake1 (W : Int → Int) (A : Yd) (g : Int) : Yd := if sTakes A g W then sBury A (sHeavy W A g (sNp A)) g 1 else A
def sTake (W : Int → Int) (A : Yd) : Nat → Yd × Int
  | 0 => (A, 0)
  | n + 1 => (sTake1 W (sTake W A n).1 (n : Int), (sTake W A n).2 + if sTakes (sTake W A n).1 (n : Int) W then 1 else 0)
def sCut (x m : Int) : Int := max 0 (min m x)
def sHeart1 (P : Pr) (t : Int) (A : Yd) (p : Int) : Yd := if sLive A p = true then sUp A 7 p (sCut (sVal (P 11) A p t) 9) else A
def sHeart (P : Pr) (t : Int) (A : Yd) : Nat → Yd
  | 0 => A
  | n + 1 => sHeart1 P t (sHeart P t A n) (n : Int)
def sOld1 (A : Yd) (p : Int) : Yd := if sLive A p = true then sUp A 6 p (min 99 (A 6 p + 1)) else A
def sOld (A : Yd) : Nat → Yd
  | 0 => A
  | n + 1 => sOld1 (sOld A n) (n : Int)
def sTk (P : Pr) (A : Yd) : Yd × Int := sTake (fun p => sVal (P 10) (sNear (sCome P A (sNp A)) (sNg A)) p 0) (sNear (sCome P A (sNp A)) (sNg A)) (sNg A)
def sHt (P : Pr) (A : Yd) : Yd := sHeart P (sTk P A).2 (sTk P A).1 (sNp A)
def sAge (P : Pr) (A : Yd) : Yd := if (A 0 2) % 12 = 11 then sOld (sHt P A) (sNp A) else sHt P A
def sPass (P : Pr) (A : Yd) : Yd := sUp (sAge P A) 0 2 (A 0 2 + 1)
-- what stays
theorem sUp_eq {A : Yd} {c k v : Int} : sUp A c k v c k = v := by unfold sUp; exact if_pos ⟨rfl, rfl⟩
theorem sUp_c {A : Yd} {c k v c' k' : Int} (h : c' ≠ c) : sUp A c k v c' k' = A c' k' := by unfold sUp; exact if_neg (fun z => h z.1)
theorem sUp_k {A : Yd} {c k v c' k' : Int} (h : k' ≠ k) : sUp A c k v c' k' = A c' k' := by unfold sUp; exact if_neg (fun z => h z.2)
/-- the same but for who, alive and what is kept -/
def sameB (A B : Yd) : Prop := B 0 0 = A 0 0 ∧ B 0 1 = A 0 1 ∧ B 0 2 = A 0 2 ∧ ∀ c k, c ≠ 0 → c ≠ 4 → c ≠ 8 → c ≠ 9 → B c k = A c k
theorem sameB_rf {A : Yd} : sameB A A := ⟨rfl, rfl, rfl, fun _ _ _ _ _ _ => rfl⟩
theorem sameB_tr {A B C : Yd} (h : sameB A B) (k : sameB B C) : sameB A C := ⟨k.1.trans h.1, k.2.1.trans h.2.1, k.2.2.1.trans h.2.2.1, fun c q a b d e => (k.2.2.2 c q a b d e).trans (h.2.2.2 c q a b d e)⟩
theorem sameB_bury {A : Yd} {p g how : Int} : sameB A (sBury A p g how) := by
  refine ⟨?_, ?_, ?_, fun c k a b d e => ?_⟩ <;> simp only [sBury] <;> grind
theorem okY_bury {A : Yd} {p g how : Int} (ho : okY A) (hp0 : 0 ≤ p) (hp1 : p < A 0 1) : okY (sBury A p g how) := by
  have h1 := ho.1
  have h2 := ho.2.1
  have h3 := ho.2.2
  obtain ⟨e0, e1, e2, e3⟩ := sameB_bury (A := A) (p := p) (g := g) (how := how)
  refine ⟨?_, fun k k0 k1 => ?_, fun k k0 k1 => ?_⟩
  · rw [e0, e1, e2]
    have : sBury A p g how 0 3 = if A 0 3 < 8 then A 0 3 + 1 else A 0 3 := by simp only [sBury]; grind
    grind
  · rw [e0] at k1
    rw [e1, e3 1 k (by decide) (by decide) (by decide) (by decide), e3 2 k (by decide) (by decide) (by decide) (by decide), e3 3 k (by decide) (by decide) (by decide) (by decide)]
    have : sBury A p g how 4 k = p ∨ sBury A p g how 4 k = A 4 k := by simp only [sBury]; grind
    have := h2 k k0 k1
    omega
  · rw [e1] at k1
    rw [e3 5 k (by decide) (by decide) (by decide) (by decide), e3 6 k (by decide) (by decide) (by decide) (by decide), e3 7 k (by decide) (by decide) (by decide) (by decide)]
    have : sBury A p g how 8 k = 0 ∨ sBury A p g how 8 k = A 8 k := by simp only [sBury]; grind
    have := h3 k k0 k1
    omega
theorem isR_fr {h h' : Hp} {s r y : Int} {prog : List Int} (hR : isR h s r prog) (hf : frY y h h') (hs : 10 < s) (hs2 : s + 3 < y) : isR h' s r prog := by
  obtain ⟨a, b, c, d⟩ := hR
  refine ⟨?_, ?_, ?_, fun j hj => ?_⟩
  · rw [hf _ _ (by omega) (by omega) (by omega)]; exact a
  · rw [hf _ _ (by omega) (by omega) (by omega), hf _ _ (by omega) (by omega) (by omega)]; exact b
  · rw [hf _ _ (by omega) (by omega) (by omega)]; exact c
  · rw [hf _ _ (by omega) (by omega) (by omega), hf _ _ (by omega) (by omega) (by omega)]; exact d j hj
theorem hasR_fr {h h' : Hp} {s y N : Int} {P : Pr} (hR : hasR h s N P) (hf : frY y h h') (hs : 10 < s) (hs2 : s + 3 < y) : hasR h' s N P := fun n r a b => isR_fr (hR n r a b) hf hs hs2
theorem hasR_N {h : Hp} {s N N' : Int} {P : Pr} (hR : hasR h s N P) (e : N' = N) : hasR h s N' P := e ▸ hR
theorem frY_7 {h h' : Hp} {y : Int} (h7 : ∀ i k, i ≠ 7 → h' i k = h i k) : frY y h h' := fun i k a _ _ => h7 i k a
theorem isY_7 {h h' : Hp} {y : Int} {A : Yd} (hy : isY h y A) (hy9 : 10 < y) (h7 : ∀ i k, i ≠ 7 → h' i k = h i k) : isY h' y A := by
  have a1 := hy.1
  have a2 := hy.2.1
  have a3 := hy.2.2.1
  have a4 := hy.2.2.2
  refine ⟨⟨?_, ?_, ?_, ?_⟩, fun k k0 k1 => ⟨?_, ?_, ?_, ?_⟩, fun k k0 k1 => ⟨?_, ?_, ?_, ?_⟩, fun k k0 k1 => ?_⟩ <;> rw [h7 _ _ (by omega)] <;> grind
theorem sameB_come {P : Pr} {A : Yd} {n : Nat} : sameB A (sCome P A n) := by
  induction n with
  | zero => exact sameB_rf
  | succ n ih =>
    show sameB A (sCome1 P (sCome P A n) n)
    unfold sCome1
    split
    · exact sameB_tr ih sameB_bury
    · exact ih
theorem okY_come {P : Pr} {A : Yd} (ho : okY A) {n : Nat} (hn : (n : Int) ≤ A 0 1) : okY (sCome P A n) := by
  induction n with
  | zero => exact ho
  | succ n ih =>
    have ih := ih (by omega)
    show okY (sCome1 P (sCome P A n) n)
    unfold sCome1
    split
    · exact okY_bury ih (by omega) (by rw [(sameB_come (P := P) (A := A) (n := n)).2.1]; omega)
    · exact ih
theorem s_Alm_come {h : Hp} {s y : Int} {A : Yd} {P : Pr} {K : Int → Hp → Prop} (hR : hasR h s (A 0 1) P) (hP : okP P) (hs : 10 < s) (hs2 : s + 3 < y) (hy : isY h y A) (ho : okY A)
    (hK : ∀ h', isY h' y (sCome P A (sNp A)) → frY y h h' → K 0 h') : m_Almanac_comeForward [8, s, y] h K := by
  have h6 := ho.1
  unfold m_Almanac_comeForward
  simp only [og_den, og_pad, og_ent, og_loc, og_k, og_add, og_sub, og_mul, og_div, og_rem, og_bop, og_ladd, og_lsub, og_lmul, og_ldiv, og_lrem, og_land, og_i2l, og_l2i, og_neg, og_get, og_fix, og_ald, og_gld, og_yld, og_len, og_gln, og_cc, og_cb, og_and, og_or, og_not, og_cite, og_ec, og_ei, og_rlt, og_rle, og_rgt, og_rge, og_req, og_rne, og_skip, og_seq, og_set, og_inc, og_putf, og_putz, og_ast, og_exp, og_if, og_ret, og_retz, og_retv, og_brk, og_cont, og_cs, og_sw, og_pop32, og_pop64, og_aop, og_padd, og_psub, og_pmul, og_call, og_args, og_max, og_min, og_acp, List.getD_cons_zero, List.getD_cons_succ, List.set_cons_zero, List.set_cons_succ, List.length_cons, List.length_nil, List.cons_append, List.nil_append, List.replicate, List.append_nil, Nat.reduceAdd, Nat.reduceSub, Nat.reduceEqDiff, if_true, if_false, reduceIte, Int.reduceAdd, Int.reduceSub, Int.reduceMul, Int.reduceNeg, Int.reduceLT, Int.reduceLE, Int.cast_ofNat_Int, true_or, or_true, true_and, and_true, false_and, List.mem_cons, List.not_mem_nil, or_false, false_or, ne_eq]
  refine og_loop (sNp A) (fun i e1 h1 => ∃ c4, e1 = [8, s, y, (i : Int), c4] ∧ isY h1 y (sCome P A i) ∧ frY y h h1) ⟨0, rfl, hy, frY_rf⟩ ?_
  rintro i e1 h1 hi ⟨c4, rfl, hY, hF⟩
  simp only [og_den, og_pad, og_ent, og_loc, og_k, og_add, og_sub, og_mul, og_div, og_rem, og_bop, og_ladd, og_lsub, og_lmul, og_ldiv, og_lrem, og_land, og_i2l, og_l2i, og_neg, og_get, og_fix, og_ald, og_gld, og_yld, og_len, og_gln, og_cc, og_cb, og_and, og_or, og_not, og_cite, og_ec, og_ei, og_rlt, og_rle, og_rgt, og_rge, og_req, og_rne, og_skip, og_seq, og_set, og_inc, og_putf, og_putz, og_ast, og_exp, og_if, og_ret, og_retz, og_retv, og_brk, og_cont, og_cs, og_sw, og_pop32, og_pop64, og_aop, og_padd, og_psub, og_pmul, og_call, og_args, og_max, og_min, og_acp, List.getD_cons_zero, List.getD_cons_succ, List.set_cons_zero, List.set_cons_succ, List.length_cons, List.length_nil, List.cons_append, List.nil_append, List.replicate, List.append_nil, Nat.reduceAdd, Nat.reduceSub, Nat.reduceEqDiff, if_true, if_false, reduceIte, Int.reduceAdd, Int.reduceSub, Int.reduceMul, Int.reduceNeg, Int.reduceLT, Int.reduceLE, Int.cast_ofNat_Int, true_or, or_true, true_and, and_true, false_and, List.mem_cons, List.not_mem_nil, or_false, false_or, ne_eq, og_i32]
  have sB := sameB_come (P := P) (A := A) (n := i)
  have sb0 := sB.1
  have sb1 := sB.2.1
  have e1 : h1 y 1 = A 0 1 := by rw [hY.1.2.1, sB.2.1]
  have hnp : sNp A = (A 0 1).toNat := rfl
  rw [e1]
  refine ⟨fun hlt => ?_, fun hge => ?_⟩
  · have oi := okY_come (P := P) ho (n := i) (by omega)
    have hl8 := hY.2.2.1 i (by omega) (by rw [sB.2.1]; exact hlt)
    have stay : ∀ h2 c4, sCome1 P (sCome P A i) i = sCome P A i → isY h2 y (sCome P A i) → frY y h h2 → og_nx (sNp A) (fun i e1 h1 => ∃ c4, e1 = [8, s, y, (i : Int), c4] ∧ isY h1 y (sCome P A i) ∧ frY y h h1) i [8, s, y, (i : Int) + 1, c4] h2 := by
      intro h2 c4 e a b
      refine og_nx_mk (by omega) ⟨c4, by simp, ?_, b⟩
      show isY h2 y (sCome1 P (sCome P A i) i)
      rw [e]
      exact a
    apply s_Yard_lives (by omega)
    refine ⟨fun hx => ?_, fun hx => ⟨by omega, stay _ _ ?_ hY hF⟩⟩
    · have hlive : sLive (sCome P A i) i = true := by unfold sLive; grind
      apply s_Yard_countAsking hY oi
      obtain ⟨u, hu, -⟩ := hP 9 (by decide) (by decide)
      have hcb := sCnt_le (sAsk (sCome P A i)) ((sCome P A i) 0 0).toNat
      have o1 := oi.1
      refine s_Reck_value (isR_fr (hR (by omega) 9 (by decide) (by decide)) hF hs hs2) (by decide) hs (by omega) hY ⟨oi, by omega, by omega⟩ (by omega) hu (fun h2 h7 => ?_)
      have hY2 := isY_7 hY (by omega) h7
      have hF2 := frY_tr hF (frY_7 (y := y) h7)
      refine ⟨fun hv => ?_, fun hv => ⟨by omega, stay _ _ ?_ hY2 hF2⟩⟩
      · apply s_Yard_nextGrave hY2 oi (by omega) (by omega)
        refine ⟨fun hg => ?_, fun hg => ⟨by omega, stay _ _ ?_ hY2 hF2⟩⟩
        · have hn := sNext_rg (sCome P A i) i ((sCome P A i) 0 0).toNat
          refine s_Yard_bury hY2 oi (by omega) (by omega) (by omega) (by omega) (fun h3 hY3 hF3 => ⟨by omega, og_nx_mk (by omega) ⟨sNext (sCome P A i) i ((sCome P A i) 0 0).toNat, ?_, ?_, frY_tr hF2 hF3⟩⟩)
          · simp
          · show isY h3 y (sCome1 P (sCome P A i) i)
            unfold sCome1
            rw [if_pos ⟨hlive, hv, hg⟩]
            exact hY3
        · unfold sCome1
          exact if_neg (fun z => z.2.2 (Classical.not_not.mp hg))
      · unfold sCome1
        exact if_neg (fun z => z.2.1 (Classical.not_not.mp hv))
    · unfold sCome1
      refine if_neg (fun z => ?_)
      have := z.1
      unfold sLive at this
      grind
  · have : i = sNp A := by omega
    subst this
    exact hK h1 hY hF
-- graves come nearer
def sameD (A B : Yd) : Prop := ∀ c k, c ≠ 3 → B c k = A c k
theorem sameD_rf {A : Yd} : sameD A A := fun _ _ _ => rfl
theorem sameD_near {A : Yd} {n : Nat} : sameD A (sNear A n) := by
  induction n with
  | zero => exact sameD_rf
  | succ n ih =>
    intro c k hc
    show sNear1 (sNear A n) n c k = _
    unfold sNear1
    split
    · rw [sUp_c hc]; exact ih c k hc
    · exact ih c k hc
theorem sNear_at {A : Yd} {n : Nat} {k : Int} (hk : (n : Int) ≤ k) : sNear A n 3 k = A 3 k := by
  induction n with
  | zero => rfl
  | succ n ih =>
    show sNear1 (sNear A n) n 3 k = _
    unfold sNear1
    split
    · rw [sUp_k (by omega)]; exact ih (by omega)
    · exact ih (by omega)
theorem okY_near {A : Yd} (ho : okY A) {n : Nat} : okY (sNear A n) := by
  induction n with
  | zero => exact ho
  | succ n ih =>
    show okY (sNear1 (sNear A n) n)
    unfold sNear1
    split
    · have h1 := ih.1
      have h2 := ih.2.1
      have h3 := ih.2.2
      refine ⟨?_, fun k k0 k1 => ?_, fun k k0 k1 => ?_⟩
      · simp (disch := omega) only [sUp_c]; exact h1
      · simp (disch := omega) only [sUp_c] at k1 ⊢
        have h2 := h2 k k0 k1
        by_cases e : k = (n : Int)
        · subst e; rw [sUp_eq]; omega
        · rw [sUp_k e]; exact h2
      · simp (disch := omega) only [sUp_c] at k1 ⊢
        exact h3 k k0 k1
    · exact ih
theorem og_up_y {h : Hp} {y c d k k' v : Int} : og_up h (y + c) k v (y + d) k' = if d = c ∧ k' = k then v else h (y + d) k' := by
  unfold og_up
  have : (y + d = y + c) ↔ (d = c) := by omega
  simp only [this]
theorem isY_up {h : Hp} {y c k v : Int} {A : Yd} (hc : 1 ≤ c ∧ c ≤ 8) (hy : isY h y A) : isY (og_up h (y + c) k v) y (sUp A c k v) := by
  have a1 := hy.1
  have a2 := hy.2.1
  have a3 := hy.2.2.1
  have a4 := hy.2.2.2
  have z : ∀ k', sUp A c k v 0 k' = A 0 k' := fun k' => sUp_c (by omega)
  have zy : ∀ k', og_up h (y + c) k v y k' = h y k' := fun k' => og_up_i (by omega)
  refine ⟨⟨?_, ?_, ?_, ?_⟩, fun k' k0 k1 => ⟨?_, ?_, ?_, ?_⟩, fun k' k0 k1 => ⟨?_, ?_, ?_, ?_⟩, fun k' k0 k1 => ?_⟩
  · rw [z, zy]; exact a1.1
  · rw [z, zy]; exact a1.2.1
  · rw [z, zy]; exact a1.2.2.1
  · rw [z, zy]; exact a1.2.2.2
  all_goals
    rw [z] at k1
    rw [og_up_y]
    unfold sUp
    split
    · rfl
    · first
      | exact (a2 k' k0 k1).1
      | exact (a2 k' k0 k1).2.1
      | exact (a2 k' k0 k1).2.2.1
      | exact (a2 k' k0 k1).2.2.2
      | exact (a3 k' k0 k1).1
      | exact (a3 k' k0 k1).2.1
      | exact (a3 k' k0 k1).2.2.1
      | exact (a3 k' k0 k1).2.2.2
      | exact a4 k' k0 k1
theorem frY_up {h h1 : Hp} {y c k v : Int} (hc : 0 ≤ c ∧ c ≤ 9) (hf : frY y h h1) : frY y h (og_up h1 (y + c) k v) := fun i k' a b d => by
  rw [og_up_i (by omega)]
  exact hf i k' a b d
def nearJ (h : Hp) (y : Int) (A : Yd) (i : Nat) (e1 : List Int) (h1 : Hp) : Prop := ∃ b, e1 = [y, b, (i : Int)] ∧ isY h1 y (sNear A i) ∧ frY y h h1 ∧ (b = 0 ∨ b = 1) ∧ (b = 0 → ∀ g : Nat, g < i → sAsk A g = true → sNear A i 3 g ≠ 0)
theorem s_Alm_near {h : Hp} {y : Int} {A : Yd} {K : Int → Hp → Prop} (hy9 : 10 < y) (hy : isY h y A) (ho : okY A)
    (hK : ∀ h' b, isY h' y (sNear A (sNg A)) → frY y h h' → (b = 0 ∨ b = 1) → (b = 0 → ∀ g : Nat, g < sNg A → sAsk A g = true → sNear A (sNg A) 3 g ≠ 0) → K b h') : m_Almanac_comeNearer [y] h K := by
  have h6 := ho.1
  unfold m_Almanac_comeNearer
  simp only [og_den, og_pad, og_ent, og_loc, og_k, og_add, og_sub, og_mul, og_div, og_rem, og_bop, og_ladd, og_lsub, og_lmul, og_ldiv, og_lrem, og_land, og_i2l, og_l2i, og_neg, og_get, og_fix, og_ald, og_gld, og_yld, og_len, og_gln, og_cc, og_cb, og_and, og_or, og_not, og_cite, og_ec, og_ei, og_rlt, og_rle, og_rgt, og_rge, og_req, og_rne, og_skip, og_seq, og_set, og_inc, og_putf, og_putz, og_ast, og_exp, og_if, og_ret, og_retz, og_retv, og_brk, og_cont, og_cs, og_sw, og_pop32, og_pop64, og_aop, og_padd, og_psub, og_pmul, og_call, og_args, og_max, og_min, og_acp, List.getD_cons_zero, List.getD_cons_succ, List.set_cons_zero, List.set_cons_succ, List.length_cons, List.length_nil, List.cons_append, List.nil_append, List.replicate, List.append_nil, Nat.reduceAdd, Nat.reduceSub, Nat.reduceEqDiff, if_true, if_false, reduceIte, Int.reduceAdd, Int.reduceSub, Int.reduceMul, Int.reduceNeg, Int.reduceLT, Int.reduceLE, Int.cast_ofNat_Int, true_or, or_true, true_and, and_true, false_and, List.mem_cons, List.not_mem_nil, or_false, false_or, ne_eq]
  refine ⟨nearJ h y A (sNg A), ?_, ?_⟩
  · simp only [og_den, og_pad, og_ent, og_loc, og_k, og_add, og_sub, og_mul, og_div, og_rem, og_bop, og_ladd, og_lsub, og_lmul, og_ldiv, og_lrem, og_land, og_i2l, og_l2i, og_neg, og_get, og_fix, og_ald, og_gld, og_yld, og_len, og_gln, og_cc, og_cb, og_and, og_or, og_not, og_cite, og_ec, og_ei, og_rlt, og_rle, og_rgt, og_rge, og_req, og_rne, og_skip, og_seq, og_set, og_inc, og_putf, og_putz, og_ast, og_exp, og_if, og_ret, og_retz, og_retv, og_brk, og_cont, og_cs, og_sw, og_pop32, og_pop64, og_aop, og_padd, og_psub, og_pmul, og_call, og_args, og_max, og_min, og_acp, List.getD_cons_zero, List.getD_cons_succ, List.set_cons_zero, List.set_cons_succ, List.length_cons, List.length_nil, List.cons_append, List.nil_append, List.replicate, List.append_nil, Nat.reduceAdd, Nat.reduceSub, Nat.reduceEqDiff, if_true, if_false, reduceIte, Int.reduceAdd, Int.reduceSub, Int.reduceMul, Int.reduceNeg, Int.reduceLT, Int.reduceLE, Int.cast_ofNat_Int, true_or, or_true, true_and, and_true, false_and, List.mem_cons, List.not_mem_nil, or_false, false_or, ne_eq]
    refine og_loop (sNg A) (nearJ h y A) ⟨0, rfl, hy, frY_rf, Or.inl rfl, fun _ g hg => absurd hg (by omega)⟩ ?_
    rintro i e1 h1 hi ⟨b, rfl, hY, hF, hb, hb0⟩
    simp only [og_den, og_pad, og_ent, og_loc, og_k, og_add, og_sub, og_mul, og_div, og_rem, og_bop, og_ladd, og_lsub, og_lmul, og_ldiv, og_lrem, og_land, og_i2l, og_l2i, og_neg, og_get, og_fix, og_ald, og_gld, og_yld, og_len, og_gln, og_cc, og_cb, og_and, og_or, og_not, og_cite, og_ec, og_ei, og_rlt, og_rle, og_rgt, og_rge, og_req, og_rne, og_skip, og_seq, og_set, og_inc, og_putf, og_putz, og_ast, og_exp, og_if, og_ret, og_retz, og_retv, og_brk, og_cont, og_cs, og_sw, og_pop32, og_pop64, og_aop, og_padd, og_psub, og_pmul, og_call, og_args, og_max, og_min, og_acp, List.getD_cons_zero, List.getD_cons_succ, List.set_cons_zero, List.set_cons_succ, List.length_cons, List.length_nil, List.cons_append, List.nil_append, List.replicate, List.append_nil, Nat.reduceAdd, Nat.reduceSub, Nat.reduceEqDiff, if_true, if_false, reduceIte, Int.reduceAdd, Int.reduceSub, Int.reduceMul, Int.reduceNeg, Int.reduceLT, Int.reduceLE, Int.cast_ofNat_Int, true_or, or_true, true_and, and_true, false_and, List.mem_cons, List.not_mem_nil, or_false, false_or, ne_eq, og_i32]
    have sD := sameD_near (A := A) (n := i)
    have d0 := sD 0 0 (by decide)
    have e0 : h1 y 0 = A 0 0 := by rw [hY.1.1, d0]
    have oi := okY_near ho (n := i)
    have hng : sNg A = (A 0 0).toNat := rfl
    rw [e0]
    refine ⟨fun hlt => ?_, fun hge => ?_⟩
    · have hg := hY.2.1 i (by omega) (by omega)
      have og := oi.2.1 i (by omega) (by omega)
      have ask : sAsk A i = sAsk (sNear A i) i := by unfold sAsk; rw [sD 2 _ (by decide), sD 4 _ (by decide)]
      have h3i : sNear A i 3 i = A 3 i := sNear_at (Int.le_refl _)
      apply s_Yard_asks (by omega) (by omega)
      refine ⟨fun hx => ?_, fun hx => ?_⟩
      · have ak : sAsk A i = true := by rw [ask]; unfold sAsk; grind
        have en : sNear A (i + 1) = sUp (sNear A i) 3 i (max 0 (sNear A i 3 i - 1)) := by
          show sNear1 (sNear A i) i = _
          unfold sNear1
          rw [if_pos (by rw [← ask]; exact ak)]
        have hY2 : isY (og_up h1 (y + 3) i (max 0 (h1 (y + 3) i - 1))) y (sNear A (i + 1)) := by
          rw [en, hg.2.2.1]
          exact isY_up (by decide) hY
        have hF2 : frY y h (og_up h1 (y + 3) i (max 0 (h1 (y + 3) i - 1))) := frY_up (by decide) hF
        have fin : ∀ b', (b' = 0 ∨ b' = 1) → (b' = 0 → b = 0 ∧ max 0 (h1 (y + 3) i - 1) ≠ 0) → og_nx (sNg A) (nearJ h y A) i [y, b', (i : Int) + 1] (og_up h1 (y + 3) i (max 0 (h1 (y + 3) i - 1))) := by
          intro b' hb' hz
          refine og_nx_mk (by omega) ⟨b', by simp, hY2, hF2, hb', fun q g hg1 hg2 => ?_⟩
          obtain ⟨z1, z2⟩ := hz q
          rw [en]
          by_cases e : g = i
          · subst e; rw [sUp_eq, ← hg.2.2.1]; exact z2
          · rw [sUp_k (by omega)]; exact hb0 z1 g (by omega) hg2
        rw [og_up_eq]
        refine ⟨by omega, by omega, by omega, by omega, by omega, fun q => ⟨by omega, fin 1 (Or.inr rfl) (fun z => absurd z (by decide))⟩, fun q => ⟨by omega, by omega, fun z => ⟨by omega, fin 1 (Or.inr rfl) (fun z => absurd z (by decide))⟩, fun z => ⟨by omega, fin 0 (Or.inl rfl) (fun _ => ⟨q, z⟩)⟩⟩⟩
      · have ak : ¬ sAsk A i = true := by rw [ask]; unfold sAsk; grind
        have en : sNear A (i + 1) = sNear A i := by
          show sNear1 (sNear A i) i = _
          unfold sNear1
          rw [if_neg (by rw [← ask]; exact ak)]
        refine ⟨by omega, og_nx_mk (by omega) ⟨b, by simp, by rw [en]; exact hY, hF, hb, fun q g hg1 hg2 => ?_⟩⟩
        rw [en]
        by_cases e : g = i
        · subst e; exact absurd hg2 ak
        · exact hb0 q g (by omega) hg2
    · have : i = sNg A := by omega
      subst this
      exact ⟨b, rfl, hY, hF, hb, hb0⟩
  · rintro e1 h1 ⟨b, rfl, hY, hF, hb, hb0⟩
    simp only [og_den, og_pad, og_ent, og_loc, og_k, og_add, og_sub, og_mul, og_div, og_rem, og_bop, og_ladd, og_lsub, og_lmul, og_ldiv, og_lrem, og_land, og_i2l, og_l2i, og_neg, og_get, og_fix, og_ald, og_gld, og_yld, og_len, og_gln, og_cc, og_cb, og_and, og_or, og_not, og_cite, og_ec, og_ei, og_rlt, og_rle, og_rgt, og_rge, og_req, og_rne, og_skip, og_seq, og_set, og_inc, og_putf, og_putz, og_ast, og_exp, og_if, og_ret, og_retz, og_retv, og_brk, og_cont, og_cs, og_sw, og_pop32, og_pop64, og_aop, og_padd, og_psub, og_pmul, og_call, og_args, og_max, og_min, og_acp, List.getD_cons_zero, List.getD_cons_succ, List.set_cons_zero, List.set_cons_succ, List.length_cons, List.length_nil, List.cons_append, List.nil_append, List.replicate, List.append_nil, Nat.reduceAdd, Nat.reduceSub, Nat.reduceEqDiff, if_true, if_false, reduceIte, Int.reduceAdd, Int.reduceSub, Int.reduceMul, Int.reduceNeg, Int.reduceLT, Int.reduceLE, Int.cast_ofNat_Int, true_or, or_true, true_and, and_true, false_and, List.mem_cons, List.not_mem_nil, or_false, false_or, ne_eq]
    exact ⟨hb, hK h1 b hY hF hb hb0⟩
