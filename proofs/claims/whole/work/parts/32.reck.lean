-- programs: cells as the class has them; what they tell
def sPlain (A : Yd) (p cnt d : Int) : Int := if d = 6 then A 6 p else if d = 5 then A 5 p else if d = 7 then A 7 p else if d = 13 then A 0 2 else if d = 16 then p else if d = 17 then A 8 p else cnt
def sSingle (A : Yd) (p d v : Int) : Int := if d = 21 then 1 - v else if v < 0 ∨ A 0 0 ≤ v then 0 else if d = 3 then A 3 v else if A 5 p ≤ A 1 v then 1 else 0
def sFloor (a b : Int) : Int := if b = 0 then 0 else if a.tdiv b * b ≠ a ∧ (a < 0 ↔ 0 < b) then a.tdiv b - 1 else a.tdiv b
def sJoint (d a b : Int) : Int := if d = 43 then a + b else if d = 45 then a - b else if d = 42 then a * b else if d = 47 then sFloor a b else if d = 60 then (if a < b then 1 else 0) else if d = 62 then (if b < a then 1 else 0) else if d = 61 then (if a = b then 1 else 0) else if d = 23 ∨ d = 20 then min a b else max a b
def sClip (x : Int) : Int := max (-1000000) (min 1000000 x)
def sIsP (d : Int) : Bool := (decide (5 ≤ d) && decide (d ≤ 7)) || (decide (13 ≤ d) && decide (d ≤ 17))
def sIsS (d : Int) : Bool := decide (d = 21) || decide (d = 18) || decide (d = 3)
def sStep (A : Yd) (p cnt : Int) (st : List Int) (c : Int) : List Int := if 0 ≤ c then c :: st else if sIsP (-1 - c) then sPlain A p cnt (-1 - c) :: st else if sIsS (-1 - c) then (match st with
    | v :: r => sSingle A p (-1 - c) v :: r
    | [] => []) else (match st with
    | b :: a :: r => sClip (sJoint (-1 - c) a b) :: r
    | q => q)
def sRun (A : Yd) (p cnt : Int) (prog st : List Int) : List Int := prog.foldl (sStep A p cnt) st
def sVal (prog : List Int) (A : Yd) (p cnt : Int) : Int := (sRun A p cnt prog []).headD 0
-- which programs are such: a stack of sorts (true: a test, 0 or 1), never more than 60 high
def wtS (ts : List Bool) (c : Int) : Option (List Bool) := if 0 ≤ c then (if c ≤ 9999 then some (decide (c ≤ 1) :: ts) else none) else if sIsP (-1 - c) then some (false :: ts) else if sIsS (-1 - c) then (match ts with
    | t :: r => if -1 - c = 21 then (if t then some (true :: r) else none) else some ((decide (-1 - c = 18)) :: r)
    | [] => none) else (match ts with
    | t :: u :: r => if -1 - c = 19 ∨ -1 - c = 20 then (if t && u then some (true :: r) else none) else if -1 - c = 43 ∨ -1 - c = 45 ∨ -1 - c = 42 ∨ -1 - c = 47 ∨ -1 - c = 23 ∨ -1 - c = 24 then some (false :: r) else if -1 - c = 60 ∨ -1 - c = 61 ∨ -1 - c = 62 then some (true :: r) else none
    | _ => none)
def wtR : List Int → List Bool → Option (List Bool)
  | [], ts => some ts
  | c :: prog, ts => if ts.length < 60 then (match wtS ts c with
    | some ts' => wtR prog ts'
    | none => none) else none
def wtP (prog : List Int) (t : Bool) : Prop := ∃ u, wtR prog [] = some [u] ∧ (t = true → u = true)
-- a script's rule
def isR (h : Hp) (s r : Int) (prog : List Int) : Prop := 0 ≤ h (s + 2) r ∧ h (s + 3) r = h (s + 2) r + prog.length ∧ h (s + 3) r ≤ 1620 ∧ ∀ j : Nat, j < prog.length → h (s + 1) (h (s + 2) r + j) = prog.getD j 0
def okV (A : Yd) (p : Int) : Prop := okY A ∧ 0 ≤ p ∧ p < A 0 1
theorem s_Reck_isPlain {h : Hp} {d : Int} {K : Int → Hp → Prop} (hK : K (if sIsP d then 1 else 0) h) : m_Reckoner_isPlain [d] h K := by
  unfold m_Reckoner_isPlain
  simp only [og_den, og_pad, og_ent, og_loc, og_k, og_add, og_sub, og_mul, og_div, og_rem, og_bop, og_ladd, og_lsub, og_lmul, og_ldiv, og_lrem, og_land, og_i2l, og_l2i, og_neg, og_get, og_fix, og_ald, og_gld, og_yld, og_len, og_gln, og_cc, og_cb, og_and, og_or, og_not, og_cite, og_ec, og_ei, og_rlt, og_rle, og_rgt, og_rge, og_req, og_rne, og_skip, og_seq, og_set, og_inc, og_putf, og_putz, og_ast, og_exp, og_if, og_ret, og_retz, og_retv, og_brk, og_cont, og_cs, og_sw, og_pop32, og_pop64, og_aop, og_padd, og_psub, og_pmul, og_call, og_args, og_max, og_min, og_acp, List.getD_cons_zero, List.getD_cons_succ, List.set_cons_zero, List.set_cons_succ, List.length_cons, List.length_nil, List.cons_append, List.nil_append, List.replicate, List.append_nil, Nat.reduceAdd, Nat.reduceSub, Nat.reduceEqDiff, if_true, if_false, reduceIte, Int.reduceAdd, Int.reduceSub, Int.reduceMul, Int.reduceNeg, Int.reduceLT, Int.reduceLE, Int.cast_ofNat_Int, true_or, or_true, true_and, and_true, false_and, List.mem_cons, List.not_mem_nil, or_false, false_or, ne_eq]
  grind [sIsP]
theorem s_Reck_plain {h : Hp} {d y p c : Int} {A : Yd} {K : Int → Hp → Prop} (hy : isY h y A) (ho : okV A p) (hK : K (sPlain A p c d) h) : m_Reckoner_plain [d, y, p, c] h K := by
  have h6 := ho.1.1
  have hQ := hy.2.2.1 p ho.2.1 ho.2.2
  have hY := hy.1
  have hp := ho.2
  unfold m_Reckoner_plain
  simp only [og_den, og_pad, og_ent, og_loc, og_k, og_add, og_sub, og_mul, og_div, og_rem, og_bop, og_ladd, og_lsub, og_lmul, og_ldiv, og_lrem, og_land, og_i2l, og_l2i, og_neg, og_get, og_fix, og_ald, og_gld, og_yld, og_len, og_gln, og_cc, og_cb, og_and, og_or, og_not, og_cite, og_ec, og_ei, og_rlt, og_rle, og_rgt, og_rge, og_req, og_rne, og_skip, og_seq, og_set, og_inc, og_putf, og_putz, og_ast, og_exp, og_if, og_ret, og_retz, og_retv, og_brk, og_cont, og_cs, og_sw, og_pop32, og_pop64, og_aop, og_padd, og_psub, og_pmul, og_call, og_args, og_max, og_min, og_acp, List.getD_cons_zero, List.getD_cons_succ, List.set_cons_zero, List.set_cons_succ, List.length_cons, List.length_nil, List.cons_append, List.nil_append, List.replicate, List.append_nil, Nat.reduceAdd, Nat.reduceSub, Nat.reduceEqDiff, if_true, if_false, reduceIte, Int.reduceAdd, Int.reduceSub, Int.reduceMul, Int.reduceNeg, Int.reduceLT, Int.reduceLE, Int.cast_ofNat_Int, true_or, or_true, true_and, and_true, false_and, List.mem_cons, List.not_mem_nil, or_false, false_or, ne_eq]
  unfold sPlain at hK
  grind
theorem s_Reck_single {h : Hp} {d v y p : Int} {A : Yd} {K : Int → Hp → Prop} (hy : isY h y A) (ho : okV A p) (hv : -1000000 ≤ v ∧ v ≤ 1000000) (hK : K (sSingle A p d v) h) : m_Reckoner_single [d, v, y, p] h K := by
  have h6 := ho.1.1
  have hQ := hy.2.2.1 p ho.2.1 ho.2.2
  have hY := hy.1
  have hG := hy.2.1 v
  have hp := ho.2
  unfold m_Reckoner_single
  simp only [og_den, og_pad, og_ent, og_loc, og_k, og_add, og_sub, og_mul, og_div, og_rem, og_bop, og_ladd, og_lsub, og_lmul, og_ldiv, og_lrem, og_land, og_i2l, og_l2i, og_neg, og_get, og_fix, og_ald, og_gld, og_yld, og_len, og_gln, og_cc, og_cb, og_and, og_or, og_not, og_cite, og_ec, og_ei, og_rlt, og_rle, og_rgt, og_rge, og_req, og_rne, og_skip, og_seq, og_set, og_inc, og_putf, og_putz, og_ast, og_exp, og_if, og_ret, og_retz, og_retv, og_brk, og_cont, og_cs, og_sw, og_pop32, og_pop64, og_aop, og_padd, og_psub, og_pmul, og_call, og_args, og_max, og_min, og_acp, List.getD_cons_zero, List.getD_cons_succ, List.set_cons_zero, List.set_cons_succ, List.length_cons, List.length_nil, List.cons_append, List.nil_append, List.replicate, List.append_nil, Nat.reduceAdd, Nat.reduceSub, Nat.reduceEqDiff, if_true, if_false, reduceIte, Int.reduceAdd, Int.reduceSub, Int.reduceMul, Int.reduceNeg, Int.reduceLT, Int.reduceLE, Int.cast_ofNat_Int, true_or, or_true, true_and, and_true, false_and, List.mem_cons, List.not_mem_nil, or_false, false_or, ne_eq, og_i32]
  unfold sSingle at hK
  grind
