theorem og_xneg {x y : Int} (hx : og_i32 x) (hy : og_i32 y) : og_bit og_oxor x y < 0 ↔ ¬ (x < 0 ↔ y < 0) := by
  have e : ∀ z : Int32, z.toInt < 0 ↔ z.toBitVec.msb = true := by
    intro z
    rw [BitVec.msb_eq_toInt]
    simp only [decide_eq_true_eq]
    rfl
  unfold og_bit og_oxor
  rw [e, Int32.toBitVec_xor, BitVec.msb_xor]
  have e1 := e (Int32.ofInt x)
  have e2 := e (Int32.ofInt y)
  rw [og_ti hx.1 hx.2] at e1
  rw [og_ti hy.1 hy.2] at e2
  rw [e1, e2]
  cases (Int32.ofInt x).toBitVec.msb <;> cases (Int32.ofInt y).toBitVec.msb <;> simp
theorem og_tdiv_bd {a b : Int} (ha : -1000000 ≤ a) (ha2 : a ≤ 1000000) : -1000000 ≤ a.tdiv b ∧ a.tdiv b ≤ 1000000 := by
  have h := Int.natAbs_tdiv_le_natAbs a b
  omega
theorem og_tdm {a b : Int} (ha : -1000000 ≤ a) (ha2 : a ≤ 1000000) : -1000000 ≤ a.tdiv b * b ∧ a.tdiv b * b ≤ 1000000 := by
  have h : (a.tdiv b * b).natAbs ≤ a.natAbs := by
    rw [Int.natAbs_mul, Int.natAbs_tdiv]
    exact Nat.div_mul_le_self _ _
  omega
theorem s_J_floorDiv {h : Hp} {a b : Int} {K : Int → Hp → Prop} (ha : -1000000 ≤ a ∧ a ≤ 1000000) (hb : -1000000 ≤ b ∧ b ≤ 1000000) (h0 : b ≠ 0) (hK : K (sFloor a b) h) : m_J_floorDiv [a, b] h K := by
  have hd := og_tdiv_bd (b := b) ha.1 ha.2
  have hm := og_tdm (b := b) ha.1 ha.2
  have hx := og_xneg (x := a) (y := b) ⟨by omega, by omega⟩ ⟨by omega, by omega⟩
  unfold sFloor at hK
  unfold m_J_floorDiv
  simp only [og_den, og_pad, og_ent, og_loc, og_k, og_add, og_sub, og_mul, og_div, og_rem, og_bop, og_ladd, og_lsub, og_lmul, og_ldiv, og_lrem, og_land, og_i2l, og_l2i, og_neg, og_get, og_fix, og_ald, og_gld, og_yld, og_len, og_gln, og_cc, og_cb, og_and, og_or, og_not, og_cite, og_ec, og_ei, og_rlt, og_rle, og_rgt, og_rge, og_req, og_rne, og_skip, og_seq, og_set, og_inc, og_putf, og_putz, og_ast, og_exp, og_if, og_ret, og_retz, og_retv, og_brk, og_cont, og_cs, og_sw, og_pop32, og_pop64, og_aop, og_padd, og_psub, og_pmul, og_call, og_args, og_max, og_min, og_acp, List.getD_cons_zero, List.getD_cons_succ, List.set_cons_zero, List.set_cons_succ, List.length_cons, List.length_nil, List.cons_append, List.nil_append, List.replicate, List.append_nil, Nat.reduceAdd, Nat.reduceSub, Nat.reduceEqDiff, if_true, if_false, reduceIte, Int.reduceAdd, Int.reduceSub, Int.reduceMul, Int.reduceNeg, Int.reduceLT, Int.reduceLE, Int.cast_ofNat_Int, true_or, or_true, true_and, and_true, false_and, List.mem_cons, List.not_mem_nil, or_false, false_or, ne_eq, og_i32]
  rw [hx]
  grind
theorem s_Reck_joint {h : Hp} {d a b : Int} {K : Int → Hp → Prop} (ha : -1000000 ≤ a ∧ a ≤ 1000000) (hb : -1000000 ≤ b ∧ b ≤ 1000000) (hK : K (sJoint d a b) h) : m_Reckoner_joint [d, a, b] h K := by
  unfold m_Reckoner_joint
  simp only [og_den, og_pad, og_ent, og_loc, og_k, og_add, og_sub, og_mul, og_div, og_rem, og_bop, og_ladd, og_lsub, og_lmul, og_ldiv, og_lrem, og_land, og_i2l, og_l2i, og_neg, og_get, og_fix, og_ald, og_gld, og_yld, og_len, og_gln, og_cc, og_cb, og_and, og_or, og_not, og_cite, og_ec, og_ei, og_rlt, og_rle, og_rgt, og_rge, og_req, og_rne, og_skip, og_seq, og_set, og_inc, og_putf, og_putz, og_ast, og_exp, og_if, og_ret, og_retz, og_retv, og_brk, og_cont, og_cs, og_sw, og_pop32, og_pop64, og_aop, og_padd, og_psub, og_pmul, og_call, og_args, og_max, og_min, og_acp, List.getD_cons_zero, List.getD_cons_succ, List.set_cons_zero, List.set_cons_succ, List.length_cons, List.length_nil, List.cons_append, List.nil_append, List.replicate, List.append_nil, Nat.reduceAdd, Nat.reduceSub, Nat.reduceEqDiff, if_true, if_false, reduceIte, Int.reduceAdd, Int.reduceSub, Int.reduceMul, Int.reduceNeg, Int.reduceLT, Int.reduceLE, Int.cast_ofNat_Int, true_or, or_true, true_and, and_true, false_and, List.mem_cons, List.not_mem_nil, or_false, false_or, ne_eq, og_i32, og_i64]
  unfold sJoint at hK
  have hm : -1000000000000 ≤ a * b ∧ a * b ≤ 1000000000000 := by
    have h1 : (a * b).natAbs ≤ 1000000 * 1000000 := by rw [Int.natAbs_mul]; exact Nat.mul_le_mul (by omega) (by omega)
    omega
  have hf : d = 47 → b ≠ 0 → m_J_floorDiv [a, b] h K := fun e hb0 => s_J_floorDiv ha hb hb0 (by subst e; exact hK)
  refine ⟨fun e => ⟨by omega, by rw [if_pos e] at hK; exact hK⟩, fun n => ?_⟩
  rw [if_neg n] at hK
  refine ⟨fun e => ⟨by omega, by rw [if_pos e] at hK; exact hK⟩, fun n => ?_⟩
  rw [if_neg n] at hK
  refine ⟨fun e => ⟨by omega, by rw [if_pos e] at hK; exact hK⟩, fun n => ?_⟩
  rw [if_neg n] at hK
  refine ⟨fun e => ⟨fun b0 => ?_, fun b0 => hf e b0⟩, fun n => ?_⟩
  · rw [if_pos e] at hK
    unfold sFloor at hK
    rw [if_pos b0] at hK
    exact hK
  rw [if_neg n] at hK
  grind
-- the stack of values and their sorts
def tyV (ts : List Bool) (st : List Int) : Prop := ts.length = st.length ∧ ∀ j : Nat, j < st.length → (-1000000 ≤ st.getD j 0 ∧ st.getD j 0 ≤ 1000000) ∧ (ts.getD j false = true → 0 ≤ st.getD j 0 ∧ st.getD j 0 ≤ 1)
theorem sClip_bd (x : Int) : -1000000 ≤ sClip x ∧ sClip x ≤ 1000000 := by unfold sClip; omega
theorem tyV_step {A : Yd} {p cnt c : Int} {st : List Int} {ts ts' : List Bool} (ho : okV A p) (hc : 0 ≤ cnt ∧ cnt ≤ 100) (h : tyV ts st) (hw : wtS ts c = some ts') : tyV ts' (sStep A p cnt st c) ∧ (sStep A p cnt st c).length ≤ st.length + 1 := by
  have h6 := ho.1.1
  have hp := ho.2
  have hP := ho.1.2.2 p ho.2.1 ho.2.2
  unfold wtS at hw
  unfold sStep
  by_cases c0 : 0 ≤ c
  · rw [if_pos c0] at hw ⊢
    split at hw
    · cases hw
      refine ⟨⟨by simp [h.1], ?_⟩, by simp⟩
      intro j hj
      cases j with
      | zero => simp; omega
      | succ j => simpa using h.2 j (by simpa using hj)
    · cases hw
  · rw [if_neg c0] at hw ⊢
    by_cases c1 : sIsP (-1 - c) = true
    · rw [if_pos c1] at hw ⊢
      cases hw
      refine ⟨⟨by simp [h.1], ?_⟩, by simp⟩
      intro j hj
      cases j with
      | zero => simp; unfold sPlain; grind
      | succ j => simpa using h.2 j (by simpa using hj)
    · rw [if_neg c1] at hw ⊢
      by_cases c2 : sIsS (-1 - c) = true
      · rw [if_pos c2] at hw ⊢
        cases ts with
        | nil => cases hw
        | cons t r =>
          cases st with
          | nil => have := h.1; simp at this
          | cons v q =>
            have hv := h.2 0 (by simp)
            have hg := ho.1.2.1 v
            simp only [List.getD_cons_zero] at hv
            have key : ∀ (b : Bool) , tyV (b :: r) (sSingle A p (-1 - c) v :: q) ↔ ((-1000000 ≤ sSingle A p (-1 - c) v ∧ sSingle A p (-1 - c) v ≤ 1000000) ∧ (b = true → 0 ≤ sSingle A p (-1 - c) v ∧ sSingle A p (-1 - c) v ≤ 1)) := by
              intro b
              constructor
              · intro hh; simpa using hh.2 0 (by simp)
              · intro hh
                refine ⟨by simpa using h.1, ?_⟩
                intro j hj
                cases j with
                | zero => simpa using hh
                | succ j => simpa using h.2 (j + 1) (by simpa using hj)
            dsimp only at hw ⊢
            refine ⟨?_, by simp⟩
            split at hw
            · split at hw
              · cases hw
                rw [key]
                unfold sSingle
                grind
              · cases hw
            · cases hw
              rw [key]
              unfold sSingle
              unfold sIsS at c2
              grind
      · rw [if_neg c2] at hw ⊢
        cases ts with
        | nil => cases hw
        | cons t r =>
          cases r with
          | nil => cases hw
          | cons u r =>
            match st, h with
            | [], h => have := h.1; simp at this
            | [_], h => have := h.1; simp at this
            | b :: a :: q, h =>
              have hb := h.2 0 (by simp)
              have ha := h.2 1 (by simp)
              simp only [List.getD_cons_zero, List.getD_cons_succ] at hb ha
              have hcl := sClip_bd (sJoint (-1 - c) a b)
              have key : ∀ (z : Bool) , (z = true → 0 ≤ sClip (sJoint (-1 - c) a b) ∧ sClip (sJoint (-1 - c) a b) ≤ 1) → tyV (z :: r) (sClip (sJoint (-1 - c) a b) :: q) := by
                intro z hh
                refine ⟨by simpa using h.1, ?_⟩
                intro j hj
                cases j with
                | zero => exact ⟨by simpa using hcl, by simpa using hh⟩
                | succ j => simpa using h.2 (j + 2) (by simpa using hj)
              dsimp only at hw ⊢
              refine ⟨?_, by simp⟩
              split at hw
              · split at hw
                · rename_i e1 e2
                  cases hw
                  apply key
                  intro _
                  have e3 : t = true ∧ u = true := by simpa using e2
                  have hb' := hb.2 e3.1
                  have ha' := ha.2 e3.2
                  have e4 : sJoint (-1 - c) a b = min a b ∨ sJoint (-1 - c) a b = max a b := by
                    rcases e1 with e | e <;> simp [sJoint, e]
                  unfold sClip
                  omega
                · cases hw
              · split at hw
                · cases hw
                  apply key
                  intro hz
                  cases hz
                · split at hw
                  · cases hw
                    apply key
                    intro _
                    unfold sClip sJoint
                    grind
                  · cases hw
def pileOK (h : Hp) (st : List Int) : Prop := ∀ j : Nat, j < st.length → h 7 (j : Int) = st.getD (st.length - 1 - j) 0
theorem sRun_s {A : Yd} {p cnt : Int} {prog st : List Int} {i : Nat} (hi : i < prog.length) : sRun A p cnt (prog.take (i + 1)) st = sStep A p cnt (sRun A p cnt (prog.take i) st) (prog.getD i 0) := by
  unfold sRun
  rw [List.take_add_one, List.foldl_append, List.getD_eq_getElem?_getD, List.getElem?_eq_getElem hi]
  rfl
theorem wtR_s {prog : List Int} {ts : List Bool} {u : Bool} {i : Nat} (hi : i < prog.length) (h : wtR (prog.drop i) ts = some [u]) : ∃ ts', wtS ts (prog.getD i 0) = some ts' ∧ wtR (prog.drop (i + 1)) ts' = some [u] ∧ ts.length < 60 := by
  rw [List.drop_eq_getElem_cons hi] at h
  unfold wtR at h
  rw [List.getD_eq_getElem?_getD, List.getElem?_eq_getElem hi]
  split at h
  · rename_i hl
    cases hq : wtS ts prog[i] with
    | none => rw [hq] at h; cases h
    | some ts' => rw [hq] at h; exact ⟨ts', by simpa using hq, h, hl⟩
  · cases h
theorem pile_push {h : Hp} {st : List Int} {v : Int} (hp : pileOK h st) : pileOK (og_up h 7 (st.length : Int) v) (v :: st) := by
  intro j hj
  simp only [List.length_cons] at hj ⊢
  by_cases e : j = st.length
  · subst e
    rw [og_up_eq]
    simp
  · rw [og_up_k (by omega), hp j (by omega)]
    have : st.length + 1 - 1 - j = (st.length - 1 - j) + 1 := by omega
    rw [this, List.getD_cons_succ]
theorem pile_top {h : Hp} {st : List Int} {v w : Int} (hp : pileOK h (v :: st)) : pileOK (og_up h 7 (st.length : Int) w) (w :: st) := by
  intro j hj
  simp only [List.length_cons] at hj ⊢
  by_cases e : j = st.length
  · subst e
    rw [og_up_eq]
    simp
  · rw [og_up_k (by omega), hp j (by simp; omega)]
    simp only [List.length_cons]
    have : st.length + 1 - 1 - j = (st.length - 1 - j) + 1 := by omega
    rw [this, List.getD_cons_succ, List.getD_cons_succ]
theorem pile_hd {h : Hp} {st : List Int} {v : Int} (hp : pileOK h (v :: st)) : h 7 (st.length : Int) = v := by
  have := hp st.length (by simp)
  simpa using this
theorem pile_tl {h : Hp} {st : List Int} {v : Int} (hp : pileOK h (v :: st)) : pileOK h st := by
  intro j hj
  have := hp j (by simp; omega)
  simp only [List.length_cons] at this
  have e : st.length + 1 - 1 - j = (st.length - 1 - j) + 1 := by omega
  rw [e, List.getD_cons_succ] at this
  exact this
def vJ (h : Hp) (s r y p cnt : Int) (A : Yd) (prog : List Int) (u : Bool) (i : Nat) (e1 : List Int) (h1 : Hp) : Prop := ∃ st ts c9 c10, e1 = [6, s, r, y, p, cnt, (st.length : Int), h (s + 3) r, h (s + 2) r + i, c9, c10] ∧ st = sRun A p cnt (prog.take i) [] ∧ wtR (prog.drop i) ts = some [u] ∧ tyV ts st ∧ pileOK h1 st ∧ ∀ i k, i ≠ 7 → h1 i k = h i k
theorem wtS_bd {ts ts' : List Bool} {c : Int} (h : wtS ts c = some ts') : -100 ≤ c ∧ c ≤ 9999 := by
  unfold wtS at h
  by_cases c0 : 0 ≤ c
  · rw [if_pos c0] at h
    split at h
    · omega
    · cases h
  · rw [if_neg c0] at h
    by_cases c1 : sIsP (-1 - c) = true
    · unfold sIsP at c1; simp at c1; omega
    · rw [if_neg c1] at h
      by_cases c2 : sIsS (-1 - c) = true
      · unfold sIsS at c2; simp at c2; omega
      · rw [if_neg c2] at h
        match ts, h with
        | t :: v :: r, h =>
          dsimp only at h
          split at h
          · omega
          · split at h
            · omega
            · split at h
              · omega
              · cases h
        | [], h => cases h
        | [_], h => cases h
theorem s_Reck_value {h : Hp} {s r y p cnt : Int} {A : Yd} {prog : List Int} {u : Bool} {K : Int → Hp → Prop} (hR : isR h s r prog) (hr : 0 ≤ r ∧ r < 14) (hs : 10 < s) (hy9 : 10 < y) (hy : isY h y A) (ho : okV A p) (hc : 0 ≤ cnt ∧ cnt ≤ 100) (hw : wtR prog [] = some [u])
    (hK : ∀ h', (∀ i k, i ≠ 7 → h' i k = h i k) → K (sVal prog A p cnt) h') : m_Reckoner_value [6, s, r, y, p, cnt] h K := by
  obtain ⟨r0, r1, r2, r3⟩ := hR
  unfold m_Reckoner_value
  simp only [og_den, og_pad, og_ent, og_loc, og_k, og_add, og_sub, og_mul, og_div, og_rem, og_bop, og_ladd, og_lsub, og_lmul, og_ldiv, og_lrem, og_land, og_i2l, og_l2i, og_neg, og_get, og_fix, og_ald, og_gld, og_yld, og_len, og_gln, og_cc, og_cb, og_and, og_or, og_not, og_cite, og_ec, og_ei, og_rlt, og_rle, og_rgt, og_rge, og_req, og_rne, og_skip, og_seq, og_set, og_inc, og_putf, og_putz, og_ast, og_exp, og_if, og_ret, og_retz, og_retv, og_brk, og_cont, og_cs, og_sw, og_pop32, og_pop64, og_aop, og_padd, og_psub, og_pmul, og_call, og_args, og_max, og_min, og_acp, List.getD_cons_zero, List.getD_cons_succ, List.set_cons_zero, List.set_cons_succ, List.length_cons, List.length_nil, List.cons_append, List.nil_append, List.replicate, List.append_nil, Nat.reduceAdd, Nat.reduceSub, Nat.reduceEqDiff, if_true, if_false, reduceIte, Int.reduceAdd, Int.reduceSub, Int.reduceMul, Int.reduceNeg, Int.reduceLT, Int.reduceLE, Int.cast_ofNat_Int, true_or, or_true, true_and, and_true, false_and, List.mem_cons, List.not_mem_nil, or_false, false_or, ne_eq, og_i32]
  repeat (refine And.intro (by omega) ?_)
  have hmin : min (h (s + 3) r) 1620 = h (s + 3) r := by omega
  rw [hmin]
  have hyy : ∀ h1 : Hp, (∀ i k, i ≠ 7 → h1 i k = h i k) → isY h1 y A := by
    intro h1 hf
    have a1 := hy.1
    have a2 := hy.2.1
    have a3 := hy.2.2.1
    have a4 := hy.2.2.2
    refine ⟨⟨?_, ?_, ?_, ?_⟩, fun k k0 k1 => ⟨?_, ?_, ?_, ?_⟩, fun k k0 k1 => ⟨?_, ?_, ?_, ?_⟩, fun k k0 k1 => ?_⟩ <;> rw [hf _ _ (by omega)] <;> grind
  refine ⟨vJ h s r y p cnt A prog u prog.length, ?_, ?_⟩
  · simp only [og_den, og_pad, og_ent, og_loc, og_k, og_add, og_sub, og_mul, og_div, og_rem, og_bop, og_ladd, og_lsub, og_lmul, og_ldiv, og_lrem, og_land, og_i2l, og_l2i, og_neg, og_get, og_fix, og_ald, og_gld, og_yld, og_len, og_gln, og_cc, og_cb, og_and, og_or, og_not, og_cite, og_ec, og_ei, og_rlt, og_rle, og_rgt, og_rge, og_req, og_rne, og_skip, og_seq, og_set, og_inc, og_putf, og_putz, og_ast, og_exp, og_if, og_ret, og_retz, og_retv, og_brk, og_cont, og_cs, og_sw, og_pop32, og_pop64, og_aop, og_padd, og_psub, og_pmul, og_call, og_args, og_max, og_min, og_acp, List.getD_cons_zero, List.getD_cons_succ, List.set_cons_zero, List.set_cons_succ, List.length_cons, List.length_nil, List.cons_append, List.nil_append, List.replicate, List.append_nil, Nat.reduceAdd, Nat.reduceSub, Nat.reduceEqDiff, if_true, if_false, reduceIte, Int.reduceAdd, Int.reduceSub, Int.reduceMul, Int.reduceNeg, Int.reduceLT, Int.reduceLE, Int.cast_ofNat_Int, true_or, or_true, true_and, and_true, false_and, List.mem_cons, List.not_mem_nil, or_false, false_or, ne_eq]
    refine ⟨by omega, by omega, ?_⟩
    refine og_loop prog.length (vJ h s r y p cnt A prog u) ?_ ?_
    · refine ⟨[], [], 0, 0, ?_, rfl, by simpa using hw, ⟨rfl, fun j hj => absurd hj (by simp)⟩, fun j hj => absurd hj (by simp), fun _ _ _ => rfl⟩
      simp
    · rintro i e1 h1 hi ⟨st, ts, c9, c10, rfl, hst, hwt, hty, hpl, hfr⟩
      simp only [og_den, og_pad, og_ent, og_loc, og_k, og_add, og_sub, og_mul, og_div, og_rem, og_bop, og_ladd, og_lsub, og_lmul, og_ldiv, og_lrem, og_land, og_i2l, og_l2i, og_neg, og_get, og_fix, og_ald, og_gld, og_yld, og_len, og_gln, og_cc, og_cb, og_and, og_or, og_not, og_cite, og_ec, og_ei, og_rlt, og_rle, og_rgt, og_rge, og_req, og_rne, og_skip, og_seq, og_set, og_inc, og_putf, og_putz, og_ast, og_exp, og_if, og_ret, og_retz, og_retv, og_brk, og_cont, og_cs, og_sw, og_pop32, og_pop64, og_aop, og_padd, og_psub, og_pmul, og_call, og_args, og_max, og_min, og_acp, List.getD_cons_zero, List.getD_cons_succ, List.set_cons_zero, List.set_cons_succ, List.length_cons, List.length_nil, List.cons_append, List.nil_append, List.replicate, List.append_nil, Nat.reduceAdd, Nat.reduceSub, Nat.reduceEqDiff, if_true, if_false, reduceIte, Int.reduceAdd, Int.reduceSub, Int.reduceMul, Int.reduceNeg, Int.reduceLT, Int.reduceLE, Int.cast_ofNat_Int, true_or, or_true, true_and, and_true, false_and, List.mem_cons, List.not_mem_nil, or_false, false_or, ne_eq, og_i32]
      refine ⟨fun hlt => ?_, fun hge => ?_⟩
      · have hi' : i < prog.length := by omega
        obtain ⟨ts', hws, hwt', hl60⟩ := wtR_s hi' hwt
        have hstep := tyV_step ho hc hty hws
        have hcell : h1 (s + 1) (h (s + 2) r + (i : Int)) = prog.getD i 0 := by rw [hfr _ _ (by omega)]; exact r3 i hi'
        have hln : st.length < 60 := by rw [← hty.1]; exact hl60
        have hcb := wtS_bd hws
        rw [hcell]
        generalize hc0 : prog.getD i 0 = c at *
        have hY1 := hyy h1 hfr
        have fin : ∀ (st' : List Int) (h2 : Hp) (c9 c10 n : Int), st' = sStep A p cnt st c → n = (st'.length : Int) → pileOK h2 st' → (∀ i k, i ≠ 7 → h2 i k = h i k) → og_nx prog.length (vJ h s r y p cnt A prog u) i [6, s, r, y, p, cnt, n, h (s + 3) r, h (s + 2) r + i + 1, c9, c10] h2 := by
          intro st' h2 c9 c10 n e1 en e2 e3
          refine og_nx_mk hi' ⟨st', ts', c9, c10, ?_, ?_, hwt', ?_, e2, e3⟩
          · rw [en]; simp; omega
          · rw [e1, sRun_s hi', hc0, ← hst]
          · rw [e1]; exact hstep.1
        have push : ∀ v, v :: st = sStep A p cnt st c → og_nx prog.length (vJ h s r y p cnt A prog u) i [6, s, r, y, p, cnt, (st.length : Int) + 1, h (s + 3) r, h (s + 2) r + i + 1, c, -1 - c] (og_up h1 7 (st.length : Int) v) := fun v hv =>
          fin (v :: st) _ _ _ _ hv (by simp) (pile_push hpl) (fun i k hi => by rw [og_up_i hi]; exact hfr i k hi)
        repeat (refine And.intro (by omega) ?_)
        refine ⟨fun c0 => ⟨fun _ => ⟨fun _ => ⟨by omega, by omega, by omega, by omega, push c (by unfold sStep; rw [if_pos c0])⟩, fun n => absurd c0 n⟩, fun n => absurd (show (st.length : Int) < 64 by omega) n⟩, fun c0 => ?_⟩
        apply s_Reck_isPlain
        refine ⟨fun hx => ?_, fun hx => ?_⟩
        · have c1 : sIsP (-1 - c) = true := by
            cases q : sIsP (-1 - c)
            · rw [q] at hx; simp at hx
            · rfl
          refine ⟨fun _ => ⟨fun n => absurd n c0, fun _ => ?_⟩, fun n => absurd (show (st.length : Int) < 64 by omega) n⟩
          apply s_Reck_plain hY1 ho
          exact ⟨by omega, by omega, by omega, by omega, push _ (by unfold sStep; rw [if_neg c0, if_pos c1])⟩
        · have c1 : ¬ sIsP (-1 - c) = true := by
            intro q
            rw [q] at hx; simp at hx
          by_cases c2 : sIsS (-1 - c) = true
          · have hne : ∃ v q, st = v :: q := by
              cases st with
              | nil =>
                unfold wtS at hws
                rw [if_neg c0, if_neg c1, if_pos c2] at hws
                have : ts = [] := by have := hty.1; simpa using this
                subst this
                cases hws
              | cons v q => exact ⟨v, q, rfl⟩
            obtain ⟨v, q, rfl⟩ := hne
            have hv := hty.2 0 (by simp)
            simp only [List.getD_cons_zero] at hv
            have ht := pile_hd hpl
            have hlen : ((v :: q).length : Int) = (q.length : Int) + 1 := by simp
            have e1 : (q.length : Int) + 1 - 1 = (q.length : Int) := by omega
            have hq60 : q.length < 59 := by simp at hln; omega
            rw [hlen, e1, ht]
            refine ⟨fun _ => ?_, fun n1 => ⟨fun _ => ?_, fun n2 => ⟨fun _ => ?_, fun n3 => ?_⟩⟩⟩
            rotate_right
            · exfalso; unfold sIsS at c2; simp at c2; omega
            all_goals
              refine ⟨fun _ => ⟨by omega, by omega, by omega, by omega, ?_⟩, fun n => absurd (by omega) n⟩
              apply s_Reck_single hY1 ho hv.1
              refine ⟨by omega, by omega, by omega, fin (sSingle A p (-1 - c) v :: q) _ _ _ _ ?_ (by simp) (pile_top hpl) (fun i k hi => by rw [og_up_i hi]; exact hfr i k hi)⟩
              unfold sStep
              rw [if_neg c0, if_neg c1, if_pos c2]
          · have hne : ∃ b a q, st = b :: a :: q := by
              unfold wtS at hws
              rw [if_neg c0, if_neg c1, if_neg c2] at hws
              have hl := hty.1
              match st, ts, hl, hws with
              | b :: a :: q, _, _, _ => exact ⟨b, a, q, rfl⟩
              | [b], [t], _, hws => cases hws
              | [], [], _, hws => cases hws
            obtain ⟨b, a, q, rfl⟩ := hne
            have hvb := hty.2 0 (by simp)
            have hva := hty.2 1 (by simp)
            simp only [List.getD_cons_zero, List.getD_cons_succ] at hvb hva
            have htb := pile_hd hpl
            have hta := pile_hd (pile_tl hpl)
            have hlen : ((b :: a :: q).length : Int) = (q.length : Int) + 2 := by simp; omega
            have hlen1 : ((a :: q).length : Int) = (q.length : Int) + 1 := by simp
            have e1 : (q.length : Int) + 2 + -1 = (q.length : Int) + 1 := by omega
            have e2 : (q.length : Int) + 1 - 1 = (q.length : Int) := by omega
            have hq60 : q.length < 58 := by simp at hln; omega
            rw [hlen1] at htb
            rw [hlen, e1, e2, hta, htb]
            have n21 : ¬ (-1 - c = 21) := fun z => c2 (by unfold sIsS; simp [z])
            have n18 : ¬ (-1 - c = 18) := fun z => c2 (by unfold sIsS; simp [z])
            have n3 : ¬ (-1 - c = 3) := fun z => c2 (by unfold sIsS; simp [z])
            refine ⟨fun z => absurd z n21, fun _ => ⟨fun z => absurd z n18, fun _ => ⟨fun z => absurd z n3, fun _ => ⟨fun _ => ?_, fun n => absurd (by omega) n⟩⟩⟩⟩
            repeat (refine And.intro (by omega) ?_)
            apply s_Reck_joint hva.1 hvb.1
            have hj := sClip_bd (sJoint (-1 - c) a b)
            unfold sClip at hj
            refine ⟨by omega, by omega, by omega, by omega, fin (sClip (sJoint (-1 - c) a b) :: q) _ _ _ _ ?_ (by simp) (pile_top (pile_tl hpl)) (fun i k hi => by rw [og_up_i hi]; exact hfr i k hi)⟩
            unfold sStep
            rw [if_neg c0, if_neg c1, if_neg c2]
      · have : i = prog.length := by omega
        subst this
        refine ⟨st, ts, c9, c10, rfl, hst, hwt, hty, hpl, hfr⟩
  · rintro e1 h1 ⟨st, ts, c9, c10, rfl, hst, hwt, hty, hpl, hfr⟩
    rw [List.take_length] at hst
    rw [List.drop_length] at hwt
    have h1l : st.length = 1 := by
      have : ts = [u] := Option.some.inj hwt
      rw [← hty.1, this]
      rfl
    match st, h1l with
    | [v], _ =>
      have hv := pile_hd hpl
      simp only [og_den, og_pad, og_ent, og_loc, og_k, og_add, og_sub, og_mul, og_div, og_rem, og_bop, og_ladd, og_lsub, og_lmul, og_ldiv, og_lrem, og_land, og_i2l, og_l2i, og_neg, og_get, og_fix, og_ald, og_gld, og_yld, og_len, og_gln, og_cc, og_cb, og_and, og_or, og_not, og_cite, og_ec, og_ei, og_rlt, og_rle, og_rgt, og_rge, og_req, og_rne, og_skip, og_seq, og_set, og_inc, og_putf, og_putz, og_ast, og_exp, og_if, og_ret, og_retz, og_retv, og_brk, og_cont, og_cs, og_sw, og_pop32, og_pop64, og_aop, og_padd, og_psub, og_pmul, og_call, og_args, og_max, og_min, og_acp, List.getD_cons_zero, List.getD_cons_succ, List.set_cons_zero, List.set_cons_succ, List.length_cons, List.length_nil, List.cons_append, List.nil_append, List.replicate, List.append_nil, Nat.reduceAdd, Nat.reduceSub, Nat.reduceEqDiff, if_true, if_false, reduceIte, Int.reduceAdd, Int.reduceSub, Int.reduceMul, Int.reduceNeg, Int.reduceLT, Int.reduceLE, Int.cast_ofNat_Int, true_or, or_true, true_and, and_true, false_and, List.mem_cons, List.not_mem_nil, or_false, false_or, ne_eq]
      refine ⟨fun _ => ?_, fun n => absurd trivial n⟩
      have e : sVal prog A p cnt = v := by unfold sVal; rw [← hst]; rfl
      have hv0 : h1 7 0 = v := hv
      rw [hv0, ← e]
      exact hK h1 hfr
