-- rows of graves
def rFree (A : Yd) (g : Int) (u : Nat) (p : Nat) : Bool := sAsk A g && sLive A (p : Int) && sFit A (p : Int) g && !u.testBit p
def rFold (fr : Nat → Bool) (v : Nat → Int) (b : Int) : Nat → Int
  | 0 => b
  | n + 1 => if fr n then max (rFold fr v b n) (v n) else rFold fr v b n
def rB (A : Yd) (H : Nat → Int) : Nat → Nat → Int
  | 0, _ => 0
  | j + 1, u => rFold (rFree A (A 0 0 - (j + 1)) u) (fun p => 10000 - H p + rB A H j (u ||| 2 ^ p)) (rB A H j u) (sNp A)
def rFb (A : Yd) (H : Nat → Int) (j u : Nat) (p : Nat) : Bool := rFree A (A 0 0 - (j + 1)) u p && decide (10000 - H p + rB A H j (u ||| 2 ^ p) = rB A H (j + 1) u)
def rCh (A : Yd) (H : Nat → Int) (j u : Nat) : Int := if rB A H j u = rB A H (j + 1) u then -1 else (if sLf (rFb A H j u) (sNp A) < sNp A then (sLf (rFb A H j u) (sNp A) : Int) else -1)
def rU (A : Yd) (H : Nat → Int) : Nat → Nat
  | 0 => 0
  | i + 1 => if rCh A H (sNg A - (i + 1)) (rU A H i) = -1 then rU A H i else rU A H i ||| 2 ^ (rCh A H (sNg A - (i + 1)) (rU A H i)).toNat
def rMo (b : Int) : Int := (b + 9999) / 10000
def rHa (b : Int) : Int := 10000 * rMo b - b
def rVal (j : Nat) (b : Int) : Prop := ∃ m w : Int, b = 10000 * m - w ∧ 0 ≤ m ∧ m ≤ j ∧ 0 ≤ w ∧ w ≤ 999 * m
theorem rB_s (A : Yd) (H : Nat → Int) (j u : Nat) : rB A H (j + 1) u = rFold (rFree A (A 0 0 - (j + 1)) u) (fun p => 10000 - H p + rB A H j (u ||| 2 ^ p)) (rB A H j u) (sNp A) := rfl
theorem rFold_s (fr : Nat → Bool) (v : Nat → Int) (b : Int) (n : Nat) : rFold fr v b (n + 1) = if fr n then max (rFold fr v b n) (v n) else rFold fr v b n := rfl
theorem rFold_val {j : Nat} {fr : Nat → Bool} {v : Nat → Int} {b : Int} (hb : rVal (j + 1) b) (hv : ∀ p, rVal (j + 1) (v p)) : ∀ n, rVal (j + 1) (rFold fr v b n)
  | 0 => hb
  | n + 1 => by
    have ih := rFold_val (fr := fr) hb hv n
    rw [rFold_s]
    split
    · by_cases e : rFold fr v b n ≤ v n
      · rw [Int.max_eq_right e]; exact hv n
      · rw [Int.max_eq_left (by omega)]; exact ih
    · exact ih
theorem rB_val {A : Yd} {H : Nat → Int} (hH : ∀ p, 0 ≤ H p ∧ H p ≤ 999) : ∀ j u, rVal j (rB A H j u)
  | 0, u => ⟨0, 0, by unfold rB; decide, by decide, by decide, by decide, by decide⟩
  | j + 1, u => by
    rw [rB_s]
    refine rFold_val ?_ (fun p => ?_) _
    · obtain ⟨m, w, a, b, c, d, e⟩ := rB_val hH j u
      exact ⟨m, w, a, b, by omega, d, e⟩
    · obtain ⟨m, w, a, b, c, d, e⟩ := rB_val hH j (u ||| 2 ^ p)
      have := hH p
      exact ⟨m + 1, w + H p, by rw [a]; omega, by omega, by omega, by omega, by omega⟩
theorem rMo_eq {j : Nat} {m w : Int} (hj : j ≤ 6) (h1 : 0 ≤ m) (h2 : m ≤ j) (h3 : 0 ≤ w) (h4 : w ≤ 999 * m) : rMo (10000 * m - w) = m ∧ rHa (10000 * m - w) = w := by
  have e : rMo (10000 * m - w) = m := by unfold rMo; omega
  exact ⟨e, by unfold rHa; rw [e]; omega⟩
theorem rVal_mo {j : Nat} {b : Int} (hj : j ≤ 6) (h : rVal j b) : 0 ≤ rMo b ∧ rMo b ≤ j ∧ 0 ≤ rHa b ∧ rHa b ≤ 999 * rMo b ∧ b = 10000 * rMo b - rHa b := by
  obtain ⟨m, w, a, b1, c, d, e⟩ := h
  have q := rMo_eq hj b1 c d e
  rw [← a] at q
  rw [q.1, q.2]
  exact ⟨b1, c, d, e, a⟩
theorem rB_rg {A : Yd} {H : Nat → Int} (hH : ∀ p, 0 ≤ H p ∧ H p ≤ 999) {j u : Nat} (hj : j ≤ 6) : 0 ≤ rB A H j u ∧ rB A H j u ≤ 60000 := by
  obtain ⟨m, w, a, b, c, d, e⟩ := rB_val (A := A) hH j u
  omega
/-- the greatest is one of them -/
theorem rFold_at {fr : Nat → Bool} {v : Nat → Int} {b : Int} : ∀ n, rFold fr v b n = b ∨ ∃ p, p < n ∧ fr p = true ∧ v p = rFold fr v b n
  | 0 => Or.inl rfl
  | n + 1 => by
    have ih := rFold_at (fr := fr) (v := v) (b := b) n
    rw [rFold_s]
    cases hf : fr n
    · rw [if_neg (by decide)]
      rcases ih with e | ⟨p, a, c, d⟩
      · exact Or.inl e
      · exact Or.inr ⟨p, by omega, c, d⟩
    · rw [if_pos rfl]
      by_cases e : rFold fr v b n ≤ v n
      · exact Or.inr ⟨n, by omega, hf, by rw [Int.max_eq_right e]⟩
      · rw [Int.max_eq_left (by omega)]
        rcases ih with e | ⟨p, a, c, d⟩
        · exact Or.inl e
        · exact Or.inr ⟨p, by omega, c, d⟩
theorem rCh_cases {A : Yd} {H : Nat → Int} {j u : Nat} : (rCh A H j u = -1 ∧ rB A H j u = rB A H (j + 1) u) ∨ (∃ n : Nat, rCh A H j u = n ∧ n < sNp A ∧ rFb A H j u n = true ∧ (∀ m, m < n → rFb A H j u m = false) ∧ ¬ rB A H j u = rB A H (j + 1) u) := by
  unfold rCh
  by_cases e : rB A H j u = rB A H (j + 1) u
  · rw [if_pos e]; exact Or.inl ⟨rfl, e⟩
  · rw [if_neg e]
    right
    have hat := rFold_at (fr := rFree A (A 0 0 - (j + 1)) u) (v := fun p => 10000 - H p + rB A H j (u ||| 2 ^ p)) (b := rB A H j u) (sNp A)
    rw [← rB_s] at hat
    rcases hat with z | ⟨p, a, b, c⟩
    · exact absurd z.symm e
    · have hp : rFb A H j u p = true := by unfold rFb; rw [b]; simpa using c
      -- the first one
      have key : ∀ k, k ≤ p → (∀ m, m < k → rFb A H j u m = false) ∨ ∃ n, n < k ∧ rFb A H j u n = true ∧ ∀ m, m < n → rFb A H j u m = false := by
        intro k
        induction k with
        | zero => intro _; exact Or.inl (fun m hm => by omega)
        | succ k ih =>
          intro hk
          rcases ih (by omega) with q | ⟨n, q1, q2, q3⟩
          · cases hf : rFb A H j u k
            · refine Or.inl (fun m hm => ?_)
              by_cases e : m = k
              · subst e; exact hf
              · exact q m (by omega)
            · exact Or.inr ⟨k, by omega, hf, q⟩
          · exact Or.inr ⟨n, by omega, q2, q3⟩
      have hfin : ∃ n, n ≤ p ∧ rFb A H j u n = true ∧ ∀ m, m < n → rFb A H j u m = false := by
        rcases key p (Nat.le_refl p) with q | ⟨n, q1, q2, q3⟩
        · exact ⟨p, Nat.le_refl p, hp, q⟩
        · exact ⟨n, by omega, q2, q3⟩
      obtain ⟨n, q1, q2, q3⟩ := hfin
      have hl := sLf_un (f := rFb A H j u) (n := n) (last := sNp A) q3 (by omega) (Or.inl q2)
      rw [hl, if_pos (by omega)]
      exact ⟨n, rfl, by omega, q2, q3, e⟩
theorem two_np {A : Yd} (ho : okY A) : 2 ^ sNp A ≤ 256 := by
  have h6 := ho.1
  have : sNp A ≤ 8 := by unfold sNp; omega
  exact Nat.le_trans (Nat.pow_le_pow_right (by decide) this) (by decide)
theorem rU_lt {A : Yd} {H : Nat → Int} : ∀ i, rU A H i < 2 ^ sNp A
  | 0 => Nat.pow_pos (by decide)
  | i + 1 => by
    have ih := rU_lt (A := A) (H := H) i
    unfold rU
    split
    · exact ih
    · rename_i e
      rcases rCh_cases (A := A) (H := H) (j := sNg A - (i + 1)) (u := rU A H i) with ⟨z, -⟩ | ⟨n, z, hn, -⟩
      · exact absurd z e
      · rw [z]; exact bt_or_lt ih (by simpa using hn)
section
variable {h : Hp} {A : Yd} {P : Pr} {H : Nat → Int} {K : Int → Hp → Prop}
def bestOK (h : Hp) (A : Yd) (H : Nat → Int) (g0 : Int) : Prop := ∀ g : Int, g0 ≤ g → g ≤ A 0 0 → ∀ u : Nat, u < 2 ^ sNp A → h 19 (256 * g + u) = rB A H (A 0 0 - g).toNat u
def harmOK (h : Hp) (A : Yd) (H : Nat → Int) : Prop := ∀ p : Nat, p < sNp A → h 17 (p : Int) = H p
theorem s_Rows_isFree {g : Int} {u p : Nat} (hy : isY h 100 A) (ho : okY A) (hg : 0 ≤ g ∧ g < A 0 0) (hp : p < sNp A) (hu : u < 256) (hK : K (if rFree A g u p = true then 1 else 0) h) : m_Rows_isFree [16, 100, g, (u : Int), (p : Int)] h K := by
  have h6 := ho.1
  have hnp : sNp A = (A 0 1).toNat := rfl
  have hw := hy.2.1 g hg.1 hg.2
  have hq := hy.2.2.1 p (by omega) (by omega)
  have hbt := bt_and u (by omega) p (by omega)
  unfold m_Rows_isFree
  simp -implicitDefEqProofs only [↓dn_den, ↓dn_loc, ↓dn_k, ↓dn_add, ↓dn_sub, ↓dn_mul, ↓dn_div, ↓dn_rem, ↓dn_bop, ↓dn_ladd, ↓dn_lsub, ↓dn_lmul, ↓dn_ldiv, ↓dn_lrem, ↓dn_land, ↓dn_l2i, ↓dn_neg, ↓dn_get, ↓dn_fix, ↓dn_ald, ↓dn_gld, ↓dn_yld, ↓dn_len, ↓dn_gln, ↓dn_cc, ↓dn_cb, ↓dn_and, ↓dn_or, ↓dn_not, ↓dn_cite, ↓dn_ec, ↓dn_ei, ↓dn_skip, ↓dn_seq, ↓dn_set, ↓dn_inc, ↓dn_putf, ↓dn_putz, ↓dn_ast, ↓dn_exp, ↓dn_if, ↓dn_ret, ↓dn_retz, ↓dn_retv, ↓dn_brk, ↓dn_cont, ↓dn_cs, ↓dn_sw, ↓dn_pop32, ↓dn_pop64, ↓dn_aop, ↓dn_call, ↓dn_max, ↓dn_min, ↓dn_acp, ↓dn_i2l, ↓dn_args0, ↓dn_args1, og_pad, og_ent, og_rlt, og_rle, og_rgt, og_rge, og_req, og_rne, og_padd, og_psub, og_pmul, List.getD_cons_zero, List.getD_cons_succ, List.set_cons_zero, List.set_cons_succ, List.length_cons, List.length_nil, List.cons_append, List.nil_append, List.replicate, List.append_nil, Nat.reduceAdd, Nat.reduceSub, Nat.reduceEqDiff, if_true, if_false, reduceIte, Int.reduceAdd, Int.reduceSub, Int.reduceMul, Int.reduceNeg, Int.reduceLT, Int.reduceLE, Int.cast_ofNat_Int, true_or, or_true, true_and, and_true, false_and, List.mem_cons, List.not_mem_nil, or_false, false_or, ne_eq]
  rw [hbt]
  apply s_Yard_asks hg.1 (by omega)
  rw [hw.2.1, hw.2.2.2]
  have e1 : (6 ≤ A 2 g ∧ A 4 g = -1) ↔ sAsk A g = true := by unfold sAsk; simp
  unfold rFree at hK
  refine ⟨fun hx => ?_, fun hx => ?_⟩
  · have a1 := e1.mp (iteP1 hx)
    refine c_lives hy ho ⟨fun hz => ?_, fun hz => ?_⟩
    · have a2 := (iteP1 hz).2
      apply s_Yard_fits hg.1 (by omega) (by omega) (by omega)
      rw [hq.1, hw.1]
      have e3 : (A 5 p ≤ A 1 g) ↔ sFit A p g = true := by unfold sFit; simp
      refine ⟨fun hf => ?_, fun hf => ?_⟩
      · have a3 := e3.mp (iteP1 hf)
        rw [a1, a2, a3] at hK
        cases hb : u.testBit p
        · rw [hb] at hK; simpa using hK
        · rw [hb] at hK; simpa using hK
      · have a3 : sFit A p g = false := by simpa using fun z => iteP0 hf (e3.mpr z)
        rw [a3] at hK; simpa using hK
    · have a2 : sLive A p = false := by
        have := iteP0 hz
        cases q : sLive A p
        · rfl
        · exact absurd ⟨⟨by omega, by omega⟩, q⟩ this
      rw [a2] at hK; simpa using hK
  · have a1 : sAsk A g = false := by simpa using fun z => iteP0 hx (e1.mpr z)
    rw [a1] at hK; simpa using hK
theorem s_Rows_with {g : Int} {u p : Nat} (ho : okY A) (hb : bestOK h A H (g + 1)) (hh : harmOK h A H) (hH : ∀ p, 0 ≤ H p ∧ H p ≤ 999) (hg : 0 ≤ g ∧ g < A 0 0) (hp : p < sNp A) (hu : u < 2 ^ sNp A) (hK : K (10000 - H p + rB A H (A 0 0 - (g + 1)).toNat (u ||| 2 ^ p)) h) : m_Rows_with [16, g, (u : Int), (p : Int)] h K := by
  have h6 := ho.1
  have hnp : sNp A = (A 0 1).toNat := rfl
  have h2 := two_np ho
  have hor := bt_or_lt hu hp
  have hbo := bt_or u (by omega) p (by omega)
  have hrg := rB_rg (A := A) hH (j := (A 0 0 - (g + 1)).toNat) (u := u ||| 2 ^ p) (by omega)
  have hHp := hH p
  unfold m_Rows_with
  simp -implicitDefEqProofs only [↓dn_den, ↓dn_loc, ↓dn_k, ↓dn_add, ↓dn_sub, ↓dn_mul, ↓dn_div, ↓dn_rem, ↓dn_bop, ↓dn_ladd, ↓dn_lsub, ↓dn_lmul, ↓dn_ldiv, ↓dn_lrem, ↓dn_land, ↓dn_l2i, ↓dn_neg, ↓dn_get, ↓dn_fix, ↓dn_ald, ↓dn_gld, ↓dn_yld, ↓dn_len, ↓dn_gln, ↓dn_cc, ↓dn_cb, ↓dn_and, ↓dn_or, ↓dn_not, ↓dn_cite, ↓dn_ec, ↓dn_ei, ↓dn_skip, ↓dn_seq, ↓dn_set, ↓dn_inc, ↓dn_putf, ↓dn_putz, ↓dn_ast, ↓dn_exp, ↓dn_if, ↓dn_ret, ↓dn_retz, ↓dn_retv, ↓dn_brk, ↓dn_cont, ↓dn_cs, ↓dn_sw, ↓dn_pop32, ↓dn_pop64, ↓dn_aop, ↓dn_call, ↓dn_max, ↓dn_min, ↓dn_acp, ↓dn_i2l, ↓dn_args0, ↓dn_args1, og_pad, og_ent, og_rlt, og_rle, og_rgt, og_rge, og_req, og_rne, og_padd, og_psub, og_pmul, List.getD_cons_zero, List.getD_cons_succ, List.set_cons_zero, List.set_cons_succ, List.length_cons, List.length_nil, List.cons_append, List.nil_append, List.replicate, List.append_nil, Nat.reduceAdd, Nat.reduceSub, Nat.reduceEqDiff, if_true, if_false, reduceIte, Int.reduceAdd, Int.reduceSub, Int.reduceMul, Int.reduceNeg, Int.reduceLT, Int.reduceLE, Int.cast_ofNat_Int, true_or, or_true, true_and, and_true, false_and, List.mem_cons, List.not_mem_nil, or_false, false_or, ne_eq, og_i32]
  rw [hbo, hh p hp, hb (g + 1) (by omega) (by omega) _ hor]
  repeat (refine And.intro (by omega) ?_)
  exact hK
theorem s_Rows_bestFrom {g : Int} {u : Nat} (hy : isY h 100 A) (ho : okY A) (hb : bestOK h A H (g + 1)) (hh : harmOK h A H) (hH : ∀ p, 0 ≤ H p ∧ H p ≤ 999) (hg : 0 ≤ g ∧ g < A 0 0) (hu : u < 2 ^ sNp A) (hK : K (rB A H (A 0 0 - g).toNat u) h) : m_Rows_bestFrom [16, 100, g, (u : Int)] h K := by
  have h6 := ho.1
  have hnp : sNp A = (A 0 1).toNat := rfl
  have h2 := two_np ho
  unfold m_Rows_bestFrom
  simp -implicitDefEqProofs only [↓dn_den, ↓dn_loc, ↓dn_k, ↓dn_add, ↓dn_sub, ↓dn_mul, ↓dn_div, ↓dn_rem, ↓dn_bop, ↓dn_ladd, ↓dn_lsub, ↓dn_lmul, ↓dn_ldiv, ↓dn_lrem, ↓dn_land, ↓dn_l2i, ↓dn_neg, ↓dn_get, ↓dn_fix, ↓dn_ald, ↓dn_gld, ↓dn_yld, ↓dn_len, ↓dn_gln, ↓dn_cc, ↓dn_cb, ↓dn_and, ↓dn_or, ↓dn_not, ↓dn_cite, ↓dn_ec, ↓dn_ei, ↓dn_skip, ↓dn_seq, ↓dn_set, ↓dn_inc, ↓dn_putf, ↓dn_putz, ↓dn_ast, ↓dn_exp, ↓dn_if, ↓dn_ret, ↓dn_retz, ↓dn_retv, ↓dn_brk, ↓dn_cont, ↓dn_cs, ↓dn_sw, ↓dn_pop32, ↓dn_pop64, ↓dn_aop, ↓dn_call, ↓dn_max, ↓dn_min, ↓dn_acp, ↓dn_i2l, ↓dn_args0, ↓dn_args1, og_pad, og_ent, og_rlt, og_rle, og_rgt, og_rge, og_req, og_rne, og_padd, og_psub, og_pmul, List.getD_cons_zero, List.getD_cons_succ, List.set_cons_zero, List.set_cons_succ, List.length_cons, List.length_nil, List.cons_append, List.nil_append, List.replicate, List.append_nil, Nat.reduceAdd, Nat.reduceSub, Nat.reduceEqDiff, if_true, if_false, reduceIte, Int.reduceAdd, Int.reduceSub, Int.reduceMul, Int.reduceNeg, Int.reduceLT, Int.reduceLE, Int.cast_ofNat_Int, true_or, or_true, true_and, and_true, false_and, List.mem_cons, List.not_mem_nil, or_false, false_or, ne_eq, og_i32]
  have e0 := hb (g + 1) (by omega) (by omega) u hu
  rw [e0]
  have ej : (A 0 0 - g).toNat = (A 0 0 - (g + 1)).toNat + 1 := by omega
  have eg : A 0 0 - (((A 0 0 - (g + 1)).toNat : Nat) + 1 : Int) = g := by omega
  rw [ej, rB_s, eg] at hK
  generalize hj : (A 0 0 - (g + 1)).toNat = j at *
  refine ⟨by omega, by omega, by omega, by omega, by omega, ?_⟩
  refine ⟨fun e1 h1 => h1 = h ∧ ∃ c5, e1 = [16, 100, g, (u : Int), rFold (rFree A g u) (fun p => 10000 - H p + rB A H j (u ||| 2 ^ p)) (rB A H j u) (sNp A), c5], ?_, ?_⟩
  · simp -implicitDefEqProofs only [↓dn_den, ↓dn_loc, ↓dn_k, ↓dn_add, ↓dn_sub, ↓dn_mul, ↓dn_div, ↓dn_rem, ↓dn_bop, ↓dn_ladd, ↓dn_lsub, ↓dn_lmul, ↓dn_ldiv, ↓dn_lrem, ↓dn_land, ↓dn_l2i, ↓dn_neg, ↓dn_get, ↓dn_fix, ↓dn_ald, ↓dn_gld, ↓dn_yld, ↓dn_len, ↓dn_gln, ↓dn_cc, ↓dn_cb, ↓dn_and, ↓dn_or, ↓dn_not, ↓dn_cite, ↓dn_ec, ↓dn_ei, ↓dn_skip, ↓dn_seq, ↓dn_set, ↓dn_inc, ↓dn_putf, ↓dn_putz, ↓dn_ast, ↓dn_exp, ↓dn_if, ↓dn_ret, ↓dn_retz, ↓dn_retv, ↓dn_brk, ↓dn_cont, ↓dn_cs, ↓dn_sw, ↓dn_pop32, ↓dn_pop64, ↓dn_aop, ↓dn_call, ↓dn_max, ↓dn_min, ↓dn_acp, ↓dn_i2l, ↓dn_args0, ↓dn_args1, og_pad, og_ent, og_rlt, og_rle, og_rgt, og_rge, og_req, og_rne, og_padd, og_psub, og_pmul, List.getD_cons_zero, List.getD_cons_succ, List.set_cons_zero, List.set_cons_succ, List.length_cons, List.length_nil, List.cons_append, List.nil_append, List.replicate, List.append_nil, Nat.reduceAdd, Nat.reduceSub, Nat.reduceEqDiff, if_true, if_false, reduceIte, Int.reduceAdd, Int.reduceSub, Int.reduceMul, Int.reduceNeg, Int.reduceLT, Int.reduceLE, Int.cast_ofNat_Int, true_or, or_true, true_and, and_true, false_and, List.mem_cons, List.not_mem_nil, or_false, false_or, ne_eq]
    refine og_loop (sNp A) (fun i e1 h1 => h1 = h ∧ e1 = [16, 100, g, (u : Int), rFold (rFree A g u) (fun p => 10000 - H p + rB A H j (u ||| 2 ^ p)) (rB A H j u) i, (i : Int)]) ⟨rfl, rfl⟩ ?_
    rintro i e1 h1 hi ⟨rfl, rfl⟩
    simp -implicitDefEqProofs only [↓dn_den, ↓dn_loc, ↓dn_k, ↓dn_add, ↓dn_sub, ↓dn_mul, ↓dn_div, ↓dn_rem, ↓dn_bop, ↓dn_ladd, ↓dn_lsub, ↓dn_lmul, ↓dn_ldiv, ↓dn_lrem, ↓dn_land, ↓dn_l2i, ↓dn_neg, ↓dn_get, ↓dn_fix, ↓dn_ald, ↓dn_gld, ↓dn_yld, ↓dn_len, ↓dn_gln, ↓dn_cc, ↓dn_cb, ↓dn_and, ↓dn_or, ↓dn_not, ↓dn_cite, ↓dn_ec, ↓dn_ei, ↓dn_skip, ↓dn_seq, ↓dn_set, ↓dn_inc, ↓dn_putf, ↓dn_putz, ↓dn_ast, ↓dn_exp, ↓dn_if, ↓dn_ret, ↓dn_retz, ↓dn_retv, ↓dn_brk, ↓dn_cont, ↓dn_cs, ↓dn_sw, ↓dn_pop32, ↓dn_pop64, ↓dn_aop, ↓dn_call, ↓dn_max, ↓dn_min, ↓dn_acp, ↓dn_i2l, ↓dn_args0, ↓dn_args1, og_pad, og_ent, og_rlt, og_rle, og_rgt, og_rge, og_req, og_rne, og_padd, og_psub, og_pmul, List.getD_cons_zero, List.getD_cons_succ, List.set_cons_zero, List.set_cons_succ, List.length_cons, List.length_nil, List.cons_append, List.nil_append, List.replicate, List.append_nil, Nat.reduceAdd, Nat.reduceSub, Nat.reduceEqDiff, if_true, if_false, reduceIte, Int.reduceAdd, Int.reduceSub, Int.reduceMul, Int.reduceNeg, Int.reduceLT, Int.reduceLE, Int.cast_ofNat_Int, true_or, or_true, true_and, and_true, false_and, List.mem_cons, List.not_mem_nil, or_false, false_or, ne_eq, og_i32]
    rw [hy.1.2.1]
    refine ⟨fun hlt => ?_, fun hge => ?_⟩
    · apply s_Rows_isFree hy ho hg (by omega) (by omega)
      refine ⟨fun hx => ?_, fun hx => ?_⟩
      · apply s_Rows_with ho hb hh hH hg (by omega) hu
        rw [hj]
        refine ⟨by omega, og_nx_mk (by omega) ⟨rfl, ?_⟩⟩
        rw [rFold_s, if_pos (iteP1 hx)]
        simp
      · refine ⟨by omega, og_nx_mk (by omega) ⟨rfl, ?_⟩⟩
        rw [rFold_s, if_neg (iteP0 hx)]
        simp
    · have e : i = sNp A := by omega
      subst e
      exact ⟨_, rfl⟩
  · rintro e1 h1 ⟨rfl, c5, rfl⟩
    simp -implicitDefEqProofs only [↓dn_den, ↓dn_loc, ↓dn_k, ↓dn_add, ↓dn_sub, ↓dn_mul, ↓dn_div, ↓dn_rem, ↓dn_bop, ↓dn_ladd, ↓dn_lsub, ↓dn_lmul, ↓dn_ldiv, ↓dn_lrem, ↓dn_land, ↓dn_l2i, ↓dn_neg, ↓dn_get, ↓dn_fix, ↓dn_ald, ↓dn_gld, ↓dn_yld, ↓dn_len, ↓dn_gln, ↓dn_cc, ↓dn_cb, ↓dn_and, ↓dn_or, ↓dn_not, ↓dn_cite, ↓dn_ec, ↓dn_ei, ↓dn_skip, ↓dn_seq, ↓dn_set, ↓dn_inc, ↓dn_putf, ↓dn_putz, ↓dn_ast, ↓dn_exp, ↓dn_if, ↓dn_ret, ↓dn_retz, ↓dn_retv, ↓dn_brk, ↓dn_cont, ↓dn_cs, ↓dn_sw, ↓dn_pop32, ↓dn_pop64, ↓dn_aop, ↓dn_call, ↓dn_max, ↓dn_min, ↓dn_acp, ↓dn_i2l, ↓dn_args0, ↓dn_args1, og_pad, og_ent, og_rlt, og_rle, og_rgt, og_rge, og_req, og_rne, og_padd, og_psub, og_pmul, List.getD_cons_zero, List.getD_cons_succ, List.set_cons_zero, List.set_cons_succ, List.length_cons, List.length_nil, List.cons_append, List.nil_append, List.replicate, List.append_nil, Nat.reduceAdd, Nat.reduceSub, Nat.reduceEqDiff, if_true, if_false, reduceIte, Int.reduceAdd, Int.reduceSub, Int.reduceMul, Int.reduceNeg, Int.reduceLT, Int.reduceLE, Int.cast_ofNat_Int, true_or, or_true, true_and, and_true, false_and, List.mem_cons, List.not_mem_nil, or_false, false_or, ne_eq]
    exact hK
theorem s_Rows_firstBest {g : Int} {u : Nat} (hy : isY h 100 A) (ho : okY A) (hb : bestOK h A H g) (hh : harmOK h A H) (hH : ∀ p, 0 ≤ H p ∧ H p ≤ 999) (hg : 0 ≤ g ∧ g < A 0 0) (hu : u < 2 ^ sNp A) (hK : K (rCh A H (A 0 0 - (g + 1)).toNat u) h) : m_Rows_firstBest [16, 100, g, (u : Int)] h K := by
  have h6 := ho.1
  have hnp : sNp A = (A 0 1).toNat := rfl
  have h2 := two_np ho
  have hb1 : bestOK h A H (g + 1) := fun g' a b c d => hb g' (by omega) b c d
  unfold m_Rows_firstBest
  simp -implicitDefEqProofs only [↓dn_den, ↓dn_loc, ↓dn_k, ↓dn_add, ↓dn_sub, ↓dn_mul, ↓dn_div, ↓dn_rem, ↓dn_bop, ↓dn_ladd, ↓dn_lsub, ↓dn_lmul, ↓dn_ldiv, ↓dn_lrem, ↓dn_land, ↓dn_l2i, ↓dn_neg, ↓dn_get, ↓dn_fix, ↓dn_ald, ↓dn_gld, ↓dn_yld, ↓dn_len, ↓dn_gln, ↓dn_cc, ↓dn_cb, ↓dn_and, ↓dn_or, ↓dn_not, ↓dn_cite, ↓dn_ec, ↓dn_ei, ↓dn_skip, ↓dn_seq, ↓dn_set, ↓dn_inc, ↓dn_putf, ↓dn_putz, ↓dn_ast, ↓dn_exp, ↓dn_if, ↓dn_ret, ↓dn_retz, ↓dn_retv, ↓dn_brk, ↓dn_cont, ↓dn_cs, ↓dn_sw, ↓dn_pop32, ↓dn_pop64, ↓dn_aop, ↓dn_call, ↓dn_max, ↓dn_min, ↓dn_acp, ↓dn_i2l, ↓dn_args0, ↓dn_args1, og_pad, og_ent, og_rlt, og_rle, og_rgt, og_rge, og_req, og_rne, og_padd, og_psub, og_pmul, List.getD_cons_zero, List.getD_cons_succ, List.set_cons_zero, List.set_cons_succ, List.length_cons, List.length_nil, List.cons_append, List.nil_append, List.replicate, List.append_nil, Nat.reduceAdd, Nat.reduceSub, Nat.reduceEqDiff, if_true, if_false, reduceIte, Int.reduceAdd, Int.reduceSub, Int.reduceMul, Int.reduceNeg, Int.reduceLT, Int.reduceLE, Int.cast_ofNat_Int, true_or, or_true, true_and, and_true, false_and, List.mem_cons, List.not_mem_nil, or_false, false_or, ne_eq, og_i32]
  rw [hb (g + 1) (by omega) (by omega) u hu, hb g (by omega) (by omega) u hu]
  have ej : (A 0 0 - g).toNat = (A 0 0 - (g + 1)).toNat + 1 := by omega
  have eg : A 0 0 - (((A 0 0 - (g + 1)).toNat : Nat) + 1 : Int) = g := by omega
  rw [ej]
  refine ⟨by omega, by omega, by omega, by omega, by omega, by omega, by omega, by omega, by omega, fun hz => ?_, fun hz => ?_⟩
  · unfold rCh at hK
    rw [if_pos hz] at hK
    exact hK
  · rcases rCh_cases (A := A) (H := H) (j := (A 0 0 - (g + 1)).toNat) (u := u) with ⟨-, z⟩ | ⟨n, e, hn, hfn, hno, -⟩
    · exact absurd z hz
    · rw [e] at hK
      have step : ∀ (i : Nat) (L : Int → Hp → Prop), i ≤ n → (i = n → L 1 h) → (i < n → L 0 h) → m_Rows_isFree [16, 100, g, (u : Int), (i : Int)] h (fun x h1 => (¬ x = 0 → m_Rows_with [16, g, (u : Int), (i : Int)] h1 (fun x h1 => (x = rB A H ((A 0 0 - (g + 1)).toNat + 1) u → L 1 h1) ∧ (¬ x = rB A H ((A 0 0 - (g + 1)).toNat + 1) u → L 0 h1))) ∧ (x = 0 → L 0 h1)) := by
        intro i L hi h1 h0
        apply s_Rows_isFree hy ho hg (by omega) (by omega)
        have ef : rFb A H (A 0 0 - (g + 1)).toNat u i = (rFree A g u i && decide (10000 - H i + rB A H (A 0 0 - (g + 1)).toNat (u ||| 2 ^ i) = rB A H ((A 0 0 - (g + 1)).toNat + 1) u)) := by unfold rFb; rw [eg]
        refine ⟨fun hx => ?_, fun hx => ?_⟩
        · have hfr := iteP1 hx
          apply s_Rows_with ho hb1 hh hH hg (by omega) hu
          rw [hfr] at ef
          refine ⟨fun hq => ?_, fun hq => ?_⟩
          · rw [decide_eq_true hq] at ef
            by_cases hin : i = n
            · exact h1 hin
            · rw [hno i (by omega)] at ef; cases ef
          · rw [decide_eq_false hq] at ef
            by_cases hin : i = n
            · subst hin; rw [hfn] at ef; cases ef
            · exact h0 (by omega)
        · have hfr : rFree A g u i = false := by simpa using iteP0 hx
          rw [hfr] at ef
          by_cases hin : i = n
          · subst hin; rw [hfn] at ef; cases ef
          · exact h0 (by omega)
      refine ⟨fun _ _ => False, ?_, fun _ _ z => z.elim⟩
      simp -implicitDefEqProofs only [↓dn_den, ↓dn_loc, ↓dn_k, ↓dn_add, ↓dn_sub, ↓dn_mul, ↓dn_div, ↓dn_rem, ↓dn_bop, ↓dn_ladd, ↓dn_lsub, ↓dn_lmul, ↓dn_ldiv, ↓dn_lrem, ↓dn_land, ↓dn_l2i, ↓dn_neg, ↓dn_get, ↓dn_fix, ↓dn_ald, ↓dn_gld, ↓dn_yld, ↓dn_len, ↓dn_gln, ↓dn_cc, ↓dn_cb, ↓dn_and, ↓dn_or, ↓dn_not, ↓dn_cite, ↓dn_ec, ↓dn_ei, ↓dn_skip, ↓dn_seq, ↓dn_set, ↓dn_inc, ↓dn_putf, ↓dn_putz, ↓dn_ast, ↓dn_exp, ↓dn_if, ↓dn_ret, ↓dn_retz, ↓dn_retv, ↓dn_brk, ↓dn_cont, ↓dn_cs, ↓dn_sw, ↓dn_pop32, ↓dn_pop64, ↓dn_aop, ↓dn_call, ↓dn_max, ↓dn_min, ↓dn_acp, ↓dn_i2l, ↓dn_args0, ↓dn_args1, og_pad, og_ent, og_rlt, og_rle, og_rgt, og_rge, og_req, og_rne, og_padd, og_psub, og_pmul, List.getD_cons_zero, List.getD_cons_succ, List.set_cons_zero, List.set_cons_succ, List.length_cons, List.length_nil, List.cons_append, List.nil_append, List.replicate, List.append_nil, Nat.reduceAdd, Nat.reduceSub, Nat.reduceEqDiff, if_true, if_false, reduceIte, Int.reduceAdd, Int.reduceSub, Int.reduceMul, Int.reduceNeg, Int.reduceLT, Int.reduceLE, Int.cast_ofNat_Int, true_or, or_true, true_and, and_true, false_and, List.mem_cons, List.not_mem_nil, or_false, false_or, ne_eq]
      refine og_loop (n + 1) (fun i e1 h1 => h1 = h ∧ i ≤ n ∧ e1 = [16, 100, g, (u : Int), rB A H ((A 0 0 - (g + 1)).toNat + 1) u, (i : Int)]) ⟨rfl, by omega, rfl⟩ ?_
      rintro i e1 h1 hi ⟨rfl, hin, rfl⟩
      simp -implicitDefEqProofs only [↓dn_den, ↓dn_loc, ↓dn_k, ↓dn_add, ↓dn_sub, ↓dn_mul, ↓dn_div, ↓dn_rem, ↓dn_bop, ↓dn_ladd, ↓dn_lsub, ↓dn_lmul, ↓dn_ldiv, ↓dn_lrem, ↓dn_land, ↓dn_l2i, ↓dn_neg, ↓dn_get, ↓dn_fix, ↓dn_ald, ↓dn_gld, ↓dn_yld, ↓dn_len, ↓dn_gln, ↓dn_cc, ↓dn_cb, ↓dn_and, ↓dn_or, ↓dn_not, ↓dn_cite, ↓dn_ec, ↓dn_ei, ↓dn_skip, ↓dn_seq, ↓dn_set, ↓dn_inc, ↓dn_putf, ↓dn_putz, ↓dn_ast, ↓dn_exp, ↓dn_if, ↓dn_ret, ↓dn_retz, ↓dn_retv, ↓dn_brk, ↓dn_cont, ↓dn_cs, ↓dn_sw, ↓dn_pop32, ↓dn_pop64, ↓dn_aop, ↓dn_call, ↓dn_max, ↓dn_min, ↓dn_acp, ↓dn_i2l, ↓dn_args0, ↓dn_args1, og_pad, og_ent, og_rlt, og_rle, og_rgt, og_rge, og_req, og_rne, og_padd, og_psub, og_pmul, List.getD_cons_zero, List.getD_cons_succ, List.set_cons_zero, List.set_cons_succ, List.length_cons, List.length_nil, List.cons_append, List.nil_append, List.replicate, List.append_nil, Nat.reduceAdd, Nat.reduceSub, Nat.reduceEqDiff, if_true, if_false, reduceIte, Int.reduceAdd, Int.reduceSub, Int.reduceMul, Int.reduceNeg, Int.reduceLT, Int.reduceLE, Int.cast_ofNat_Int, true_or, or_true, true_and, and_true, false_and, List.mem_cons, List.not_mem_nil, or_false, false_or, ne_eq, og_i32]
      rw [hy.1.2.1]
      refine ⟨fun hlt => ?_, fun hge => by omega⟩
      refine step i (fun x h2 => if x = 1 then K (i : Int) h2 else (-2147483648 ≤ (i : Int) + 1 ∧ (i : Int) + 1 ≤ 2147483647) ∧ og_nx (n + 1) (fun i e1 h3 => h3 = h1 ∧ i ≤ n ∧ e1 = [16, 100, g, (u : Int), rB A H ((A 0 0 - (g + 1)).toNat + 1) u, (i : Int)]) i [16, 100, g, (u : Int), rB A H ((A 0 0 - (g + 1)).toNat + 1) u, (i : Int) + 1] h2) hin (fun hz => ?_) (fun hz => ?_)
      · rw [if_pos rfl, hz]; exact hK
      · rw [if_neg (by decide)]
        exact ⟨by omega, og_nx_mk (by omega) ⟨rfl, by omega, by simp⟩⟩
end
