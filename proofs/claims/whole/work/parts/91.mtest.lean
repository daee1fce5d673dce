section
-- the reference's way of reading tests, and that it tells what the grammar tells
def dN : List Int → List Int → Int → List Int × List Int × Int
  | [], c, o => (c, [], o)
  | v :: V, c, o => if v = 12 then dN V (c ++ [-22]) (o - 1) else (c, v :: V, o)
def isSq (v : Int) : Bool := decide (v = 25)
def nSq (v : Int) : Bool := !isSq v
def isAn (v : Int) : Bool := decide (v = 10)
def isAO (v : Int) : Bool := decide (v = 10) || decide (v = 11)
def hSq (V : List Int) : Bool := V.any isSq
/-- one fact without what opens it -/
def gFa (B : Int → Int) (n pu o : Int) : PT := fun a c => if wrd B n a = 22 then .inl (tE B n a, c ++ [1]) else gCmp B n (gS B n pu (6 - o).toNat) a c
def nT (B : Int → Int) (n pu a : Int) (c V : List Int) (o : Int) : MS ⊕ PS :=
  if sgn B n a = 91 then (if o = 6 then .inr (.inr (4, tS B n a)) else .inl (false, tE B n a, c, 25 :: V, o + 1))
  else if wrd B n a = 21 then (if o = 6 then .inr (.inr (4, tS B n a)) else .inl (false, tE B n a, c, 12 :: V, o + 1))
  else match gFa B n pu o a c with
    | .inl q => .inl (gE q.1 (dN V q.2 o))
    | .inr z => .inr (.inr z)
def nG (B : Int → Int) (n a : Int) (c V : List Int) (o : Int) : MS ⊕ PS :=
  if sgn B n a = 93 ∧ hSq V = true then .inl (gE (tE B n a) (dN (V.dropWhile nSq).tail (c ++ dcl (V.takeWhile nSq)) (o - 1)))
  else if wrd B n a = 20 then .inl (false, tE B n a, c ++ dcl (V.takeWhile isAn), 10 :: V.dropWhile isAn, o)
  else if wrd B n a = 19 then .inl (false, tE B n a, c ++ dcl (V.takeWhile isAO), 11 :: V.dropWhile isAO, o)
  else if hSq V = true then .inr (.inr (1, tS B n a))
  else .inr (.inl (a, c ++ dcl V))
def nst (B : Int → Int) (n pu : Int) (s : MS) : MS ⊕ PS := if s.1 = true then nG B n s.2.1 s.2.2.1 s.2.2.2.1 s.2.2.2.2 else nT B n pu s.2.1 s.2.2.1 s.2.2.2.1 s.2.2.2.2
def nruns (B : Int → Int) (n pu : Int) : Nat → MS → PS → Prop
  | 0, _, _ => False
  | k + 1, s, R => match nst B n pu s with
    | .inl s' => nruns B n pu k s' R
    | .inr R' => R' = R
def Tn (B : Int → Int) (n pu : Int) (s : MS) (R : PS) : Prop := ∃ k, nruns B n pu k s R
section
variable {B : Int → Int} {n pu a o : Int} {c V : List Int} {R : PS} {s s' : MS}
theorem Tn_go (h : nst B n pu s = .inl s') (ht : Tn B n pu s' R) : Tn B n pu s R := by
  obtain ⟨k, hk⟩ := ht
  refine ⟨k + 1, ?_⟩
  unfold nruns
  rw [h]
  exact hk
theorem Tn_end (h : nst B n pu s = .inr R) : Tn B n pu s R := by
  refine ⟨1, ?_⟩
  unfold nruns
  rw [h]
theorem nst_P : nst B n pu (false, a, c, V, o) = nT B n pu a c V o := rfl
theorem nst_G : nst B n pu (true, a, c, V, o) = nG B n a c V o := rfl
def tA (ops : List Int) : Prop := ops = [] ∨ ops = [10]
def tO (ops : List Int) : Prop := ops = [] ∨ ops = [11]
def tB (ops : List Int) : Prop := ∃ p q, tA p ∧ tO q ∧ ops = p ++ q
theorem tA_an {ops : List Int} (h : tA ops) : ∀ v ∈ ops, isAn v = true := by
  rcases h with rfl | rfl <;> decide
theorem tB_op {ops : List Int} (h : tB ops) : ∀ v ∈ ops, isAO v = true ∧ nSq v = true := by
  obtain ⟨p, q, hp, hq, rfl⟩ := h
  rcases hp with rfl | rfl <;> rcases hq with rfl | rfl <;> decide
def SF (B : Int → Int) (n pu : Int) (f : PT) (o : Int) : Prop := ∀ a c V R, 0 ≤ a → a ≤ n → (∀ a1 c1, f a c = .inl (a1, c1) → Tn B n pu (gE a1 (dN V c1 o)) R) → (∀ z, f a c = .inr z → R = .inr z) → Tn B n pu (false, a, c, V, o) R
theorem dN_hi : dN (12 :: V) c o = dN V (c ++ [-22]) (o - 1) := by
  conv => lhs; unfold dN
  rw [if_pos rfl]
def lo12 (V : List Int) : Prop := match V with
  | [] => True
  | v :: _ => ¬ v = 12
theorem dN_id (h : lo12 V) : dN V c o = (c, V, o) := by
  cases V with
  | nil => rfl
  | cons v V =>
    have hv : ¬ v = 12 := h
    unfold dN
    rw [if_neg hv]
theorem hSq_app {ops : List Int} (ho : ∀ v ∈ ops, nSq v = true) : hSq (ops ++ V) = hSq V := by
  induction ops with
  | nil => rfl
  | cons x ops ih =>
    have hx := ho x List.mem_cons_self
    have ih := ih (fun v hv => ho v (List.mem_cons_of_mem _ hv))
    unfold nSq at hx
    have hx : isSq x = false := by simpa using hx
    unfold hSq at ih ⊢
    rw [List.cons_append, List.any_cons, hx, Bool.false_or]
    exact ih
theorem lp_and {f : PT} (hf : Adv n f) (hs : SF B n pu f o) (hV : hdn isAn V) : ∀ (k : Nat) (a1 : Int) (c1 c' ops : List Int) (R : PS), 0 ≤ a1 → a1 ≤ n → n - a1 < k → tA ops → c1 = c' ++ dcl ops →
    (∀ a2 c2, gLw B n 20 f k a1 c1 = .inl (a2, c2) → ∀ c'' ops', tA ops' → c2 = c'' ++ dcl ops' → 0 ≤ a2 → a2 ≤ n → ¬ wrd B n a2 = 20 → Tn B n pu (true, a2, c'', ops' ++ V, o) R) → (∀ z, gLw B n 20 f k a1 c1 = .inr z → R = .inr z) → Tn B n pu (true, a1, c', ops ++ V, o) R
  | 0, a1, c1, c', ops, R, h0, h1, hk, _, _, _, _ => by omega
  | k + 1, a1, c1, c', ops, R, h0, h1, hk, ho, hc, hi, hr => by
    rw [gLw_s] at hi hr
    by_cases z : wrd B n a1 = 20
    · rw [if_pos z] at hi hr
      have wg := wrd_go (B := B) (n := n) (a := a1) (by omega)
      have te := tE_le (B := B) h1
      have tw := tw_app (tA_an ho) hV
      have es : sgn B n a1 = -1 := by unfold sgn; rw [if_neg (by omega)]
      have em : nst B n pu (true, a1, c', ops ++ V, o) = .inl (false, tE B n a1, c1, 10 :: V, o) := by
        rw [nst_G]
        unfold nG
        rw [if_neg (by omega), if_pos z, tw.1, tw.2, hc]
      refine Tn_go em (hs _ _ _ _ (by omega) te (fun a2 c2 e2 => ?_) (fun w e2 => hr w (by rw [e2]; rfl)))
      rw [dN_id (V := 10 :: V) (show ¬ (10 : Int) = 12 by decide)]
      have ad := hf (tE B n a1) c1 (by omega) te
      rw [e2] at ad hi hr
      have ad1 : tE B n a1 < a2 ∧ a2 ≤ n := ⟨ad.1, ad.2.1⟩
      exact lp_and hf hs hV k a2 (c2 ++ [-1 - 20]) c2 [10] R (by omega) ad1.2 (by omega) (Or.inr rfl) rfl hi hr
    · rw [if_neg z] at hi
      exact hi a1 c1 rfl c' ops ho hc h0 h1 z
theorem sim_both {f : PT} (hf : Adv n f) (hs : SF B n pu f o) (hV : hdn isAn V) (hl : lo12 V) (h0 : 0 ≤ a) (h1 : a ≤ n)
    (hi : ∀ a2 c2, gBoth B n f a c = .inl (a2, c2) → ∀ c'' ops', tA ops' → c2 = c'' ++ dcl ops' → 0 ≤ a2 → a2 ≤ n → ¬ wrd B n a2 = 20 → Tn B n pu (true, a2, c'', ops' ++ V, o) R) (hr : ∀ z, gBoth B n f a c = .inr z → R = .inr z) (hn : n ≤ 1600) : Tn B n pu (false, a, c, V, o) R := by
  unfold gBoth at hi hr
  refine hs a c V R h0 h1 (fun a1 c1 e1 => ?_) (fun z e1 => hr z (by rw [e1]; rfl))
  rw [dN_id hl]
  have ad := hf a c h0 h1
  rw [e1] at ad hi hr
  have ad1 : a < a1 ∧ a1 ≤ n := ⟨ad.1, ad.2.1⟩
  exact lp_and hf hs hV 1601 a1 c1 c1 [] R (by omega) ad1.2 (by omega) (Or.inl rfl) (by show c1 = c1 ++ []; simp) hi hr
theorem lp_or {f : PT} (hf : Adv n f) (hs : SF B n pu f o) (hV : hdn isAO V) (hn : n ≤ 1600) : ∀ (k : Nat) (a1 : Int) (c1 c' ops : List Int) (R : PS), 0 ≤ a1 → a1 ≤ n → n - a1 < k → tB ops → c1 = c' ++ dcl ops → ¬ wrd B n a1 = 20 →
    (∀ a2 c2, gLw B n 19 (gBoth B n f) k a1 c1 = .inl (a2, c2) → ∀ c'' ops', tB ops' → c2 = c'' ++ dcl ops' → 0 ≤ a2 → a2 ≤ n → ¬ wrd B n a2 = 20 → ¬ wrd B n a2 = 19 → Tn B n pu (true, a2, c'', ops' ++ V, o) R) → (∀ z, gLw B n 19 (gBoth B n f) k a1 c1 = .inr z → R = .inr z) → Tn B n pu (true, a1, c', ops ++ V, o) R
  | 0, a1, c1, c', ops, R, h0, h1, hk, _, _, _, _, _ => by omega
  | k + 1, a1, c1, c', ops, R, h0, h1, hk, ho, hc, hnm, hi, hr => by
    rw [gLw_s] at hi hr
    by_cases z : wrd B n a1 = 19
    · rw [if_pos z] at hi hr
      have wg := wrd_go (B := B) (n := n) (a := a1) (by omega)
      have te := tE_le (B := B) h1
      have tw := tw_app (fun v hv => (tB_op ho v hv).1) hV
      have es : sgn B n a1 = -1 := by unfold sgn; rw [if_neg (by omega)]
      have em : nst B n pu (true, a1, c', ops ++ V, o) = .inl (false, tE B n a1, c1, 11 :: V, o) := by
        rw [nst_G]
        unfold nG
        rw [if_neg (by omega), if_neg hnm, if_pos z, tw.1, tw.2, hc]
      have hfp := adv_gBoth (B := B) hf
      refine Tn_go em (sim_both hf hs (V := 11 :: V) rfl (show ¬ (11 : Int) = 12 by decide) (by omega) te (fun a2 c2 e2 c'' ops' hm2 hc2 g0 g1 gn => ?_) (fun w e2 => hr w (by rw [e2]; rfl)) hn)
      have ad := hfp (tE B n a1) c1 (by omega) te
      rw [e2] at ad hi hr
      have ad1 : tE B n a1 < a2 ∧ a2 ≤ n := ⟨ad.1, ad.2.1⟩
      have ev : ops' ++ 11 :: V = (ops' ++ [11]) ++ V := by rw [List.append_assoc]; rfl
      rw [ev]
      exact lp_or hf hs hV hn k a2 (c2 ++ [-1 - 19]) c'' _ R (by omega) ad1.2 (by omega) ⟨ops', _, hm2, Or.inr rfl, rfl⟩ (by rw [dcl_app, ← List.append_assoc, hc2]; rfl) gn hi hr
    · rw [if_neg z] at hi
      exact hi a1 c1 rfl c' ops ho hc h0 h1 hnm z
theorem sim_test {f : PT} (hf : Adv n f) (hs : SF B n pu f o) (hV : hdn isAO V) (hl : lo12 V) (h0 : 0 ≤ a) (h1 : a ≤ n)
    (hi : ∀ a2 c2, gTest B n f a c = .inl (a2, c2) → ∀ c'' ops', tB ops' → c2 = c'' ++ dcl ops' → 0 ≤ a2 → a2 ≤ n → ¬ wrd B n a2 = 20 → ¬ wrd B n a2 = 19 → Tn B n pu (true, a2, c'', ops' ++ V, o) R) (hr : ∀ z, gTest B n f a c = .inr z → R = .inr z) (hn : n ≤ 1600) : Tn B n pu (false, a, c, V, o) R := by
  unfold gTest at hi hr
  have han : hdn isAn V := by
    cases V with
    | nil => exact trivial
    | cons v V =>
      have hv : isAO v = false := hV
      show isAn v = false
      unfold isAO at hv
      unfold isAn
      simp only [Bool.or_eq_false_iff, decide_eq_false_iff_not] at hv
      exact decide_eq_false hv.1
  refine sim_both hf hs han hl h0 h1 (fun a1 c1 e1 c'' ops' hm2 hc2 g0 g1 gn => ?_) (fun z e1 => hr z (by rw [e1]; rfl)) hn
  rw [e1] at hi hr
  exact lp_or hf hs hV hn 1601 a1 c1 c'' ops' R g0 g1 (by omega) ⟨ops', [], hm2, Or.inl rfl, by simp⟩ hc2 gn hi hr
theorem nT_fa (h1 : ¬ sgn B n a = 91) (h2 : ¬ wrd B n a = 21) : nT B n pu a c V o = match gFa B n pu o a c with
    | .inl q => .inl (gE q.1 (dN V q.2 o))
    | .inr z => .inr (.inr z) := by
  unfold nT
  rw [if_neg h1, if_neg h2]
theorem sim_fact {can : Bool} {T F : PT} {d : Nat} (hn : n ≤ 1600) (ed : (6 - o).toNat = d) (ho : (can = true ∧ ¬ o = 6) ∨ (can = false ∧ o = 6))
    (hT : can = true → ∀ a c V R, hdn isAO V → lo12 V → 0 ≤ a → a ≤ n → (∀ a2 c2, T a c = .inl (a2, c2) → ∀ c'' ops', tB ops' → c2 = c'' ++ dcl ops' → 0 ≤ a2 → a2 ≤ n → ¬ wrd B n a2 = 20 → ¬ wrd B n a2 = 19 → Tn B n pu (true, a2, c'', ops' ++ V, o + 1) R) → (∀ z, T a c = .inr z → R = .inr z) → Tn B n pu (false, a, c, V, o + 1) R)
    (hF : can = true → SF B n pu F (o + 1)) : SF B n pu (gFact B n can (gS B n pu d) T F) o := by
  intro a c V R h0 h1 hi hr
  have te := tE_le (B := B) h1
  unfold gFact at hi hr
  by_cases w21 : wrd B n a = 21
  · rw [if_pos w21] at hi hr
    have wg := wrd_go (B := B) (n := n) (a := a) (by omega)
    have es : ¬ sgn B n a = 91 := by unfold sgn; rw [if_neg (by omega)]; decide
    rcases ho with ⟨hcan, ho6⟩ | ⟨hcan, ho6⟩
    · rw [if_pos hcan] at hi hr
      refine Tn_go (by rw [nst_P]; unfold nT; rw [if_neg es, if_pos w21, if_neg ho6]) (hF hcan (tE B n a) c _ R (by omega) te (fun a2 c2 e2 => ?_) (fun z e2 => hr z (by rw [e2]; rfl)))
      rw [e2, bnd_l] at hi
      rw [dN_hi]
      have eo : o + 1 - 1 = o := by omega
      rw [eo]
      exact hi _ _ rfl
    · rw [if_neg (by rw [hcan]; decide)] at hr
      exact Tn_end (by rw [nst_P]; unfold nT; rw [if_neg es, if_pos w21, if_pos ho6, hr _ rfl])
  rw [if_neg w21] at hi hr
  by_cases s91 : sgn B n a = 91
  · rw [if_pos s91] at hi hr
    have sg := sgn_go (B := B) (n := n) (a := a) (by omega)
    rcases ho with ⟨hcan, ho6⟩ | ⟨hcan, ho6⟩
    · rw [if_pos hcan] at hi hr
      refine Tn_go (by rw [nst_P]; unfold nT; rw [if_pos s91, if_neg ho6]) (hT hcan (tE B n a) c (25 :: V) R rfl (show ¬ (25 : Int) = 12 by decide) (by omega) te (fun a2 c2 e2 c'' ops' hs' hc2 g0 g1 gn gm => ?_) (fun z e2 => hr z (by rw [e2]; rfl)))
      rw [e2, bnd_l] at hi hr
      unfold gTk at hi hr
      have hb : hSq (ops' ++ 25 :: V) = true := by rw [hSq_app (fun v hv => (tB_op hs' v hv).2)]; unfold hSq; rw [List.any_cons]; rfl
      have tw := tw_app (p := nSq) (V := 25 :: V) (fun v hv => (tB_op hs' v hv).2) rfl
      by_cases s93 : sgn B n a2 = 93
      · rw [if_pos s93] at hi
        refine Tn_go (by rw [nst_G]; unfold nG; rw [if_pos ⟨s93, hb⟩, tw.1, tw.2, ← hc2]) ?_
        have eo : o + 1 - 1 = o := by omega
        rw [eo]
        exact hi _ _ rfl
      · rw [if_neg s93] at hr
        refine Tn_end ?_
        rw [nst_G]
        unfold nG
        rw [if_neg (fun z => s93 z.1), if_neg gn, if_neg gm, if_pos hb, hr _ rfl]
    · rw [if_neg (by rw [hcan]; decide)] at hr
      exact Tn_end (by rw [nst_P]; unfold nT; rw [if_pos s91, if_pos ho6, hr _ rfl])
  rw [if_neg s91] at hi hr
  have efa : gFa B n pu o a c = if wrd B n a = 22 then .inl (tE B n a, c ++ [1]) else gCmp B n (gS B n pu d) a c := by unfold gFa; rw [ed]
  rw [← efa] at hi hr
  revert hi hr
  cases hq : gFa B n pu o a c with
  | inl q =>
    obtain ⟨a1, c1⟩ := q
    intro hi hr
    exact Tn_go (by rw [nst_P, nT_fa s91 w21, hq]) (hi a1 c1 rfl)
  | inr z =>
    intro hi hr
    exact Tn_end (by rw [nst_P, nT_fa s91 w21, hq, hr z rfl])
theorem sim_F (hn : n ≤ 1600) : ∀ d : Nat, d ≤ 6 → SF B n pu (gF B n pu d) (6 - (d : Int))
  | 0, _ => sim_fact (can := false) hn (by decide) (Or.inr ⟨rfl, rfl⟩) (fun z => by cases z) (fun z => by cases z)
  | d + 1, hd => by
    have ih := sim_F hn d (by omega)
    have eo : 6 - ((d + 1 : Nat) : Int) + 1 = 6 - (d : Int) := by omega
    refine sim_fact (can := true) hn (by omega) (Or.inl ⟨rfl, by omega⟩) (fun _ a c V R hV hl h0 h1 hi hr => ?_) (fun _ => by rw [eo]; exact ih)
    rw [eo] at hi ⊢
    exact sim_test (adv_gF d) ih hV hl h0 h1 hi hr hn
theorem sim_T (hn : n ≤ 1600) (h0 : 0 ≤ a) (h1 : a ≤ n) : Tn B n pu (false, a, c, [], 0) (gT B n pu 6 a c) := by
  refine sim_test (o := 0) (adv_gF 6) (sim_F hn 6 (by omega)) trivial trivial h0 h1 (fun a2 c2 e2 c'' ops' hs' hc2 g0 g1 gn gm => ?_) (fun z e2 => e2) hn
  have hb : hSq (ops' ++ []) = false := by rw [hSq_app (fun v hv => (tB_op hs' v hv).2)]; rfl
  have e3 : gT B n pu 6 a c = .inl (a2, c2) := e2
  rw [e3]
  refine Tn_end ?_
  rw [nst_G]
  unfold nG
  rw [hb, if_neg (fun z => by cases z.2), if_neg gn, if_neg gm, if_neg (by decide), List.append_nil, ← hc2]
end
end
