section
-- the reference's way of reading sums: what waits lies on a row; and that it tells what the grammar tells
def dcl (V : List Int) : List Int := V.map dc
def eP : List Int → List Int → Int → List Int × List Int × Int
  | [], c, o => (c, [], o)
  | v :: V, c, o => if 60 ≤ v then eP V (c ++ [dc v]) (o - 1) else (c, v :: V, o)
def isB (v : Int) : Bool := decide (20 ≤ v) && decide (v ≤ 24)
def nB (v : Int) : Bool := !isB v
def isMu (v : Int) : Bool := decide (v = 3) || decide (v = 4)
def isOp (v : Int) : Bool := decide (1 ≤ v) && decide (v ≤ 4)
def br : List Int → Int
  | [] => -1
  | v :: V => if isB v = true then v else br V
abbrev MS : Type := Bool × Int × List Int × List Int × Int
def gE (a : Int) (q : List Int × List Int × Int) : MS := (true, a, q.1, q.2.1, q.2.2)
def mP (B : Int → Int) (n pu a : Int) (c V : List Int) (o : Int) : MS ⊕ PS :=
  if sgn B n a = 40 then (if o = 6 then .inr (.inr (4, tS B n a)) else .inl (false, tE B n a, c, 20 :: V, o + 1))
  else if wrd B n a = 23 ∨ wrd B n a = 24 then (if sgn B n (tE B n a) = 40 then (if o = 6 then .inr (.inr (4, tS B n (tE B n a))) else .inl (false, tE B n (tE B n a), c, (wrd B n a - 2) :: V, o + 1)) else .inr (.inr (1, tS B n (tE B n a))))
  else if (wrd B n a = 18 ∨ wrd B n a = 3) ∧ pu = 13 then (if o = 6 then .inr (.inr (4, tS B n a)) else .inl (false, tE B n a, c, (if wrd B n a = 18 then 60 else 61) :: V, o + 1))
  else if gKn pu (wrd B n a) = true then .inl (gE (tE B n a) (eP V (c ++ [-1 - wrd B n a]) o))
  else if tK B n a = 2 then (if 4 < tE B n a - tS B n a then .inr (.inr (1, tS B n a + 4)) else .inl (gE (tE B n a) (eP V (c ++ [tN B n a]) o)))
  else .inr (.inr (1, tS B n a))
def mG (B : Int → Int) (n a : Int) (c V : List Int) (o : Int) : MS ⊕ PS :=
  if sgn B n a = 41 ∧ (br V = 20 ∨ br V = 23 ∨ br V = 24) then .inl (gE (tE B n a) (eP (V.dropWhile nB).tail (c ++ dcl (V.takeWhile nB) ++ (if br V = 20 then [] else [dc (br V - 18)])) (o - 1)))
  else if sgn B n a = 42 ∨ sgn B n a = 47 then .inl (false, tE B n a, c ++ dcl (V.takeWhile isMu), (if sgn B n a = 42 then 3 else 4) :: V.dropWhile isMu, o)
  else if sgn B n a = 43 ∨ sgn B n a = 45 then .inl (false, tE B n a, c ++ dcl (V.takeWhile isOp), (if sgn B n a = 43 then 1 else 2) :: V.dropWhile isOp, o)
  else if br V = 21 ∨ br V = 22 then (if sgn B n a = 44 then .inl (false, tE B n a, c ++ dcl (V.takeWhile nB), (br V + 2) :: (V.dropWhile nB).tail, o) else .inr (.inr (1, tS B n a)))
  else if br V ≠ -1 then .inr (.inr (1, tS B n a))
  else .inr (.inl (a, c ++ dcl V))
def mst (B : Int → Int) (n pu : Int) (s : MS) : MS ⊕ PS := if s.1 = true then mG B n s.2.1 s.2.2.1 s.2.2.2.1 s.2.2.2.2 else mP B n pu s.2.1 s.2.2.1 s.2.2.2.1 s.2.2.2.2
def runs (B : Int → Int) (n pu : Int) : Nat → MS → PS → Prop
  | 0, _, _ => False
  | k + 1, s, R => match mst B n pu s with
    | .inl s' => runs B n pu k s' R
    | .inr R' => R' = R
def Tm (B : Int → Int) (n pu : Int) (s : MS) (R : PS) : Prop := ∃ k, runs B n pu k s R
section
variable {B : Int → Int} {n pu a o : Int} {c V : List Int} {R : PS} {s s' : MS}
theorem Tm_go (h : mst B n pu s = .inl s') (ht : Tm B n pu s' R) : Tm B n pu s R := by
  obtain ⟨k, hk⟩ := ht
  refine ⟨k + 1, ?_⟩
  unfold runs
  rw [h]
  exact hk
theorem Tm_end (h : mst B n pu s = .inr R) : Tm B n pu s R := by
  refine ⟨1, ?_⟩
  unfold runs
  rw [h]
theorem mst_P : mst B n pu (false, a, c, V, o) = mP B n pu a c V o := rfl
theorem mst_G : mst B n pu (true, a, c, V, o) = mG B n a c V o := rfl
theorem dcl_app {U V : List Int} : dcl (U ++ V) = dcl U ++ dcl V := List.map_append
def hdn (p : Int → Bool) (V : List Int) : Prop := match V with
  | [] => True
  | v :: _ => p v = false
theorem tw_app {p : Int → Bool} {ops : List Int} (ho : ∀ v ∈ ops, p v = true) (hV : hdn p V) : (ops ++ V).takeWhile p = ops ∧ (ops ++ V).dropWhile p = V := by
  induction ops with
  | nil =>
    cases V with
    | nil => exact ⟨rfl, rfl⟩
    | cons v V =>
      have hv : p v = false := hV
      simp [List.takeWhile, List.dropWhile, hv]
  | cons x ops ih =>
    have hx := ho x List.mem_cons_self
    have ih := ih (fun v hv => ho v (List.mem_cons_of_mem _ hv))
    simp only [List.cons_append, List.takeWhile, List.dropWhile, hx, ih.1, ih.2]
    first | exact ⟨rfl, rfl⟩ | exact ⟨trivial, rfl⟩ | exact ⟨trivial, trivial⟩ | simp
theorem br_app {ops : List Int} (ho : ∀ v ∈ ops, nB v = true) : br (ops ++ V) = br V := by
  induction ops with
  | nil => rfl
  | cons x ops ih =>
    have hx := ho x List.mem_cons_self
    have ih := ih (fun v hv => ho v (List.mem_cons_of_mem _ hv))
    unfold nB at hx
    have hx : isB x = false := by simpa using hx
    show (if isB x = true then x else br (ops ++ V)) = br V
    rw [hx]
    exact ih
def oM (ops : List Int) : Prop := ops = [] ∨ ops = [3] ∨ ops = [4]
def oA (ops : List Int) : Prop := ops = [] ∨ ops = [1] ∨ ops = [2]
def oS (ops : List Int) : Prop := ∃ p q, oM p ∧ oA q ∧ ops = p ++ q
theorem oM_mu {ops : List Int} (h : oM ops) : ∀ v ∈ ops, isMu v = true := by
  rcases h with rfl | rfl | rfl <;> decide
theorem oS_op {ops : List Int} (h : oS ops) : ∀ v ∈ ops, isOp v = true ∧ nB v = true := by
  obtain ⟨p, q, hp, hq, rfl⟩ := h
  rcases hp with rfl | rfl | rfl <;> rcases hq with rfl | rfl | rfl <;> decide
def SP (B : Int → Int) (n pu : Int) (f : PT) (o : Int) : Prop := ∀ a c V R, 0 ≤ a → a ≤ n → (∀ a1 c1, f a c = .inl (a1, c1) → Tm B n pu (gE a1 (eP V c1 o)) R) → (∀ z, f a c = .inr z → R = .inr z) → Tm B n pu (false, a, c, V, o) R
theorem eP_lo {v : Int} (hv : ¬ 60 ≤ v) : eP (v :: V) c o = (c, v :: V, o) := by unfold eP; rw [if_neg hv]
theorem eP_hi {v : Int} (hv : 60 ≤ v) : eP (v :: V) c o = eP V (c ++ [dc v]) (o - 1) := by
  conv => lhs; unfold eP
  rw [if_pos hv]
/-- no waiting part on top -/
def lo60 (V : List Int) : Prop := match V with
  | [] => True
  | v :: _ => ¬ 60 ≤ v
theorem eP_id (h : lo60 V) : eP V c o = (c, V, o) := by
  cases V with
  | nil => rfl
  | cons v V => exact eP_lo h
theorem lp_mul {f : PT} (hf : Adv n f) (hs : SP B n pu f o) (hV : hdn isMu V) : ∀ (k : Nat) (a1 : Int) (c1 c' ops : List Int) (R : PS), 0 ≤ a1 → a1 ≤ n → n - a1 < k → oM ops → c1 = c' ++ dcl ops →
    (∀ a2 c2, gLp B n 42 47 f k a1 c1 = .inl (a2, c2) → ∀ c'' ops', oM ops' → c2 = c'' ++ dcl ops' → 0 ≤ a2 → a2 ≤ n → ¬ (sgn B n a2 = 42 ∨ sgn B n a2 = 47) → Tm B n pu (true, a2, c'', ops' ++ V, o) R) → (∀ z, gLp B n 42 47 f k a1 c1 = .inr z → R = .inr z) → Tm B n pu (true, a1, c', ops ++ V, o) R
  | 0, a1, c1, c', ops, R, h0, h1, hk, _, _, _, _ => by omega
  | k + 1, a1, c1, c', ops, R, h0, h1, hk, ho, hc, hi, hr => by
    rw [gLp_s] at hi hr
    by_cases z : sgn B n a1 = 42 ∨ sgn B n a1 = 47
    · rw [if_pos z] at hi hr
      have sg := sgn_go (B := B) (n := n) (a := a1) (by omega)
      have te := tE_le (B := B) h1
      have tw := tw_app (oM_mu ho) hV
      have em : mst B n pu (true, a1, c', ops ++ V, o) = .inl (false, tE B n a1, c1, (if sgn B n a1 = 42 then 3 else 4) :: V, o) := by
        rw [mst_G]
        unfold mG
        rw [if_neg (by omega), if_pos z, tw.1, tw.2, hc]
      refine Tm_go em (hs _ _ _ _ (by omega) te (fun a2 c2 e2 => ?_) (fun w e2 => hr w (by rw [e2]; rfl)))
      have hop : ¬ 60 ≤ (if sgn B n a1 = 42 then (3 : Int) else 4) := by split <;> omega
      rw [eP_lo hop]
      have ad := hf (tE B n a1) c1 (by omega) te
      rw [e2] at ad
      have ad1 : tE B n a1 < a2 ∧ a2 ≤ n := ⟨ad.1, ad.2.1⟩
      have edc : dcl [if sgn B n a1 = 42 then (3 : Int) else 4] = [-1 - sgn B n a1] := by
        rcases z with z | z
        · rw [if_pos z, z]; rfl
        · rw [if_neg (by omega), z]; rfl
      have hom : oM [if sgn B n a1 = 42 then (3 : Int) else 4] := by
        rcases z with z | z
        · rw [if_pos z]; exact Or.inr (Or.inl rfl)
        · rw [if_neg (by omega)]; exact Or.inr (Or.inr rfl)
      rw [e2] at hi hr
      exact lp_mul hf hs hV k a2 (c2 ++ [-1 - sgn B n a1]) c2 [if sgn B n a1 = 42 then (3 : Int) else 4] R (by omega) ad1.2 (by omega) hom (by rw [edc]) hi hr
    · rw [if_neg z] at hi
      exact hi a1 c1 rfl c' ops ho hc h0 h1 z
theorem sim_prod {f : PT} (hf : Adv n f) (hs : SP B n pu f o) (hV : hdn isMu V) (hl : lo60 V) (h0 : 0 ≤ a) (h1 : a ≤ n)
    (hi : ∀ a2 c2, gProd B n f a c = .inl (a2, c2) → ∀ c'' ops', oM ops' → c2 = c'' ++ dcl ops' → 0 ≤ a2 → a2 ≤ n → ¬ (sgn B n a2 = 42 ∨ sgn B n a2 = 47) → Tm B n pu (true, a2, c'', ops' ++ V, o) R) (hr : ∀ z, gProd B n f a c = .inr z → R = .inr z) (hn : n ≤ 1600) : Tm B n pu (false, a, c, V, o) R := by
  unfold gProd at hi hr
  refine hs a c V R h0 h1 (fun a1 c1 e1 => ?_) (fun z e1 => hr z (by rw [e1]; rfl))
  rw [eP_id hl]
  have ad := hf a c h0 h1
  rw [e1] at ad hi hr
  have ad1 : a < a1 ∧ a1 ≤ n := ⟨ad.1, ad.2.1⟩
  exact lp_mul hf hs hV 1601 a1 c1 c1 [] R (by omega) ad1.2 (by omega) (Or.inl rfl) (by show c1 = c1 ++ []; simp) hi hr
theorem lp_add {f : PT} (hf : Adv n f) (hs : SP B n pu f o) (hV : hdn isOp V) (hn : n ≤ 1600) : ∀ (k : Nat) (a1 : Int) (c1 c' ops : List Int) (R : PS), 0 ≤ a1 → a1 ≤ n → n - a1 < k → oS ops → c1 = c' ++ dcl ops → ¬ (sgn B n a1 = 42 ∨ sgn B n a1 = 47) →
    (∀ a2 c2, gLp B n 43 45 (gProd B n f) k a1 c1 = .inl (a2, c2) → ∀ c'' ops', oS ops' → c2 = c'' ++ dcl ops' → 0 ≤ a2 → a2 ≤ n → ¬ (sgn B n a2 = 42 ∨ sgn B n a2 = 47) → ¬ (sgn B n a2 = 43 ∨ sgn B n a2 = 45) → Tm B n pu (true, a2, c'', ops' ++ V, o) R) → (∀ z, gLp B n 43 45 (gProd B n f) k a1 c1 = .inr z → R = .inr z) → Tm B n pu (true, a1, c', ops ++ V, o) R
  | 0, a1, c1, c', ops, R, h0, h1, hk, _, _, _, _, _ => by omega
  | k + 1, a1, c1, c', ops, R, h0, h1, hk, ho, hc, hnm, hi, hr => by
    rw [gLp_s] at hi hr
    by_cases z : sgn B n a1 = 43 ∨ sgn B n a1 = 45
    · rw [if_pos z] at hi hr
      have sg := sgn_go (B := B) (n := n) (a := a1) (by omega)
      have te := tE_le (B := B) h1
      have tw := tw_app (fun v hv => (oS_op ho v hv).1) hV
      have em : mst B n pu (true, a1, c', ops ++ V, o) = .inl (false, tE B n a1, c1, (if sgn B n a1 = 43 then 1 else 2) :: V, o) := by
        rw [mst_G]
        unfold mG
        rw [if_neg (by omega), if_neg hnm, if_pos z, tw.1, tw.2, hc]
      have hfp := adv_gProd (B := B) hf
      have hop : ¬ 60 ≤ (if sgn B n a1 = 43 then (1 : Int) else 2) := by split <;> omega
      have hmu : isMu (if sgn B n a1 = 43 then (1 : Int) else 2) = false := by split <;> rfl
      have edc : dcl [if sgn B n a1 = 43 then (1 : Int) else 2] = [-1 - sgn B n a1] := by
        rcases z with z | z
        · rw [if_pos z, z]; rfl
        · rw [if_neg (by omega), z]; rfl
      have hom : oA [if sgn B n a1 = 43 then (1 : Int) else 2] := by
        rcases z with z | z
        · rw [if_pos z]; exact Or.inr (Or.inl rfl)
        · rw [if_neg (by omega)]; exact Or.inr (Or.inr rfl)
      refine Tm_go em (sim_prod hf hs (V := (if sgn B n a1 = 43 then 1 else 2) :: V) hmu hop (by omega) te (fun a2 c2 e2 c'' ops' hm2 hc2 g0 g1 gn => ?_) (fun w e2 => hr w (by rw [e2]; rfl)) hn)
      have ad := hfp (tE B n a1) c1 (by omega) te
      rw [e2] at ad hi hr
      have ad1 : tE B n a1 < a2 ∧ a2 ≤ n := ⟨ad.1, ad.2.1⟩
      have ev : ops' ++ (if sgn B n a1 = 43 then 1 else 2) :: V = (ops' ++ [if sgn B n a1 = 43 then 1 else 2]) ++ V := by rw [List.append_assoc]; rfl
      rw [ev]
      exact lp_add hf hs hV hn k a2 (c2 ++ [-1 - sgn B n a1]) c'' _ R (by omega) ad1.2 (by omega) ⟨ops', _, hm2, hom, rfl⟩ (by rw [dcl_app, edc, ← List.append_assoc, hc2]) gn hi hr
    · rw [if_neg z] at hi
      exact hi a1 c1 rfl c' ops ho hc h0 h1 hnm z
theorem sim_sum {f : PT} (hf : Adv n f) (hs : SP B n pu f o) (hV : hdn isOp V) (hl : lo60 V) (h0 : 0 ≤ a) (h1 : a ≤ n)
    (hi : ∀ a2 c2, gSum B n f a c = .inl (a2, c2) → ∀ c'' ops', oS ops' → c2 = c'' ++ dcl ops' → 0 ≤ a2 → a2 ≤ n → ¬ (sgn B n a2 = 42 ∨ sgn B n a2 = 47) → ¬ (sgn B n a2 = 43 ∨ sgn B n a2 = 45) → Tm B n pu (true, a2, c'', ops' ++ V, o) R) (hr : ∀ z, gSum B n f a c = .inr z → R = .inr z) (hn : n ≤ 1600) : Tm B n pu (false, a, c, V, o) R := by
  unfold gSum at hi hr
  have hmu : hdn isMu V := by
    cases V with
    | nil => exact trivial
    | cons v V =>
      have hv : isOp v = false := hV
      show isMu v = false
      unfold isOp at hv
      unfold isMu
      simp only [Bool.and_eq_false_iff, decide_eq_false_iff_not] at hv
      simp only [Bool.or_eq_false_iff, decide_eq_false_iff_not]
      omega
  refine sim_prod hf hs hmu hl h0 h1 (fun a1 c1 e1 c'' ops' hm2 hc2 g0 g1 gn => ?_) (fun z e1 => hr z (by rw [e1]; rfl)) hn
  rw [e1] at hi hr
  exact lp_add hf hs hV hn 1601 a1 c1 c'' ops' R g0 g1 (by omega) ⟨ops', [], hm2, Or.inl rfl, by simp⟩ hc2 gn hi hr
theorem mP_num (hk : tK B n a = 2) : mP B n pu a c V o = if 4 < tE B n a - tS B n a then .inr (.inr (1, tS B n a + 4)) else .inl (gE (tE B n a) (eP V (c ++ [tN B n a]) o)) := by
  have e1 : sgn B n a = -1 := by unfold sgn; rw [if_neg (by omega)]
  have e2 : wrd B n a = -1 := by unfold wrd; rw [if_neg (by omega)]
  have e3 : gKn pu (-1) = false := by unfold gKn; simp
  unfold mP
  rw [e1, e2, e3, if_neg (by decide), if_neg (by decide), if_neg (by omega), if_neg (by decide), if_pos hk]
theorem sim_part {can : Bool} {S Q : PT} (hn : n ≤ 1600) (ho : (can = true ∧ ¬ o = 6) ∨ (can = false ∧ o = 6))
    (hS : can = true → ∀ a c V R, hdn isOp V → lo60 V → 0 ≤ a → a ≤ n → (∀ a2 c2, S a c = .inl (a2, c2) → ∀ c'' ops', oS ops' → c2 = c'' ++ dcl ops' → 0 ≤ a2 → a2 ≤ n → ¬ (sgn B n a2 = 42 ∨ sgn B n a2 = 47) → ¬ (sgn B n a2 = 43 ∨ sgn B n a2 = 45) → Tm B n pu (true, a2, c'', ops' ++ V, o + 1) R) → (∀ z, S a c = .inr z → R = .inr z) → Tm B n pu (false, a, c, V, o + 1) R)
    (hQ : can = true → SP B n pu Q (o + 1)) : SP B n pu (gPart B n pu can S Q) o := by
  intro a c V R h0 h1 hi hr
  have te := tE_le (B := B) h1
  unfold gPart at hi hr
  by_cases k2 : tK B n a = 2
  · rw [if_pos k2] at hi hr
    unfold gNum at hi hr
    by_cases z : 4 < tE B n a - tS B n a
    · rw [if_pos z] at hr
      exact Tm_end (by rw [mst_P, mP_num k2, if_pos z, hr _ rfl])
    · rw [if_neg z] at hi
      exact Tm_go (by rw [mst_P, mP_num k2, if_neg z]) (hi _ _ rfl)
  rw [if_neg k2] at hi hr
  by_cases s40 : sgn B n a = 40
  · rw [if_pos s40] at hi hr
    have sg := sgn_go (B := B) (n := n) (a := a) (by omega)
    rcases ho with ⟨hcan, ho6⟩ | ⟨hcan, ho6⟩
    · rw [if_pos hcan] at hi hr
      refine Tm_go (by rw [mst_P]; unfold mP; rw [if_pos s40, if_neg ho6]) (hS hcan (tE B n a) c (20 :: V) R rfl (by show ¬ (60 : Int) ≤ 20; decide) (by omega) te (fun a2 c2 e2 c'' ops' hs' hc2 g0 g1 gn gm => ?_) (fun z e2 => hr z (by rw [e2]; rfl)))
      rw [e2, bnd_l] at hi hr
      unfold gTk at hi hr
      have hb : br (ops' ++ 20 :: V) = 20 := by rw [br_app (fun v hv => (oS_op hs' v hv).2)]; rfl
      have tw := tw_app (p := nB) (V := 20 :: V) (fun v hv => (oS_op hs' v hv).2) rfl
      by_cases s41 : sgn B n a2 = 41
      · rw [if_pos s41] at hi
        refine Tm_go (by rw [mst_G]; unfold mG; rw [if_pos ⟨s41, Or.inl hb⟩, tw.1, tw.2, hb, if_pos rfl, List.append_nil, ← hc2]) ?_
        have eo : o + 1 - 1 = o := by omega
        rw [eo]
        exact hi _ _ rfl
      · rw [if_neg s41] at hr
        refine Tm_end ?_
        rw [mst_G]
        unfold mG
        rw [if_neg (fun z => s41 z.1), if_neg gn, if_neg gm, hb, if_neg (by decide), if_pos (by decide), hr _ rfl]
    · rw [if_neg (by rw [hcan]; decide)] at hr
      exact Tm_end (by rw [mst_P]; unfold mP; rw [if_pos s40, if_pos ho6, hr _ rfl])
  rw [if_neg s40] at hi hr
  by_cases w2 : wrd B n a = 23 ∨ wrd B n a = 24
  · rw [if_pos w2] at hi hr
    have wg := wrd_go (B := B) (n := n) (a := a) (by omega)
    unfold gPair at hi hr
    by_cases s40b : sgn B n (tE B n a) = 40
    · rw [if_pos s40b] at hi hr
      have sg := sgn_go (B := B) (n := n) (a := tE B n a) (by omega)
      have te2 := tE_le (B := B) te
      rcases ho with ⟨hcan, ho6⟩ | ⟨hcan, ho6⟩
      · rw [if_pos hcan] at hi hr
        have hw : (wrd B n a - 2 = 21 ∨ wrd B n a - 2 = 22) := by omega
        have hisB : isB (wrd B n a - 2) = true := by rcases hw with e | e <;> rw [e] <;> rfl
        have hop : isOp (wrd B n a - 2) = false := by rcases hw with e | e <;> rw [e] <;> rfl
        have hnb : nB (wrd B n a - 2) = false := by unfold nB; rw [hisB]; rfl
        refine Tm_go (by rw [mst_P]; unfold mP; rw [if_neg s40, if_pos w2, if_pos s40b, if_neg ho6]) (hS hcan (tE B n (tE B n a)) c ((wrd B n a - 2) :: V) R hop (by show ¬ (60 : Int) ≤ wrd B n a - 2; omega) (by omega) te2 (fun a2 c2 e2 c'' ops' hs' hc2 g0 g1 gn gm => ?_) (fun z e2 => hr z (by rw [e2]; rfl)))
        rw [e2, bnd_l] at hi hr
        have hb : br (ops' ++ (wrd B n a - 2) :: V) = wrd B n a - 2 := by rw [br_app (fun v hv => (oS_op hs' v hv).2)]; show (if isB (wrd B n a - 2) = true then _ else _) = _; rw [if_pos hisB]
        have tw := tw_app (p := nB) (V := (wrd B n a - 2) :: V) (fun v hv => (oS_op hs' v hv).2) hnb
        by_cases s44 : sgn B n a2 = 44
        · have eT : gTk B n 44 a2 c2 = .inl (tE B n a2, c2) := by unfold gTk; rw [if_pos s44]
          rw [eT, bnd_l] at hi hr
          have sg2 := sgn_go (B := B) (n := n) (a := a2) (by omega)
          have te3 := tE_le (B := B) g1
          have hop2 : isOp (wrd B n a) = false := by rcases w2 with e | e <;> rw [e] <;> rfl
          have hisB2 : isB (wrd B n a) = true := by rcases w2 with e | e <;> rw [e] <;> rfl
          have hnb2 : nB (wrd B n a) = false := by unfold nB; rw [hisB2]; rfl
          have ew : wrd B n a - 2 + 2 = wrd B n a := by omega
          refine Tm_go (s' := (false, tE B n a2, c2, wrd B n a :: V, o + 1)) (by rw [mst_G]; unfold mG; rw [if_neg (by omega), if_neg gn, if_neg gm, hb, if_pos hw, if_pos s44, tw.1, tw.2, ← hc2, ew]; rfl) (hS hcan (tE B n a2) c2 (wrd B n a :: V) R hop2 (by show ¬ (60 : Int) ≤ wrd B n a; omega) (by omega) te3 (fun a3 c3 e3 c3' ops3 hs3 hc3 g30 g31 gn3 gm3 => ?_) (fun z e3 => hr z (by rw [e3]; rfl)))
          rw [e3, bnd_l] at hi hr
          have hb3 : br (ops3 ++ wrd B n a :: V) = wrd B n a := by rw [br_app (fun v hv => (oS_op hs3 v hv).2)]; show (if isB (wrd B n a) = true then _ else _) = _; rw [if_pos hisB2]
          have tw3 := tw_app (p := nB) (V := wrd B n a :: V) (fun v hv => (oS_op hs3 v hv).2) hnb2
          by_cases s41 : sgn B n a3 = 41
          · have eT2 : gTk B n 41 a3 c3 = .inl (tE B n a3, c3) := by unfold gTk; rw [if_pos s41]
            rw [eT2, bnd_l] at hi
            have edc : dc (wrd B n a - 18) = -1 - wrd B n a := by rcases w2 with e | e <;> rw [e] <;> rfl
            refine Tm_go (by rw [mst_G]; unfold mG; rw [if_pos ⟨s41, by rw [hb3]; omega⟩, tw3.1, tw3.2, hb3, if_neg (by omega), ← hc3, edc]) ?_
            have eo : o + 1 - 1 = o := by omega
            rw [eo]
            exact hi _ _ rfl
          · have eT2 : gTk B n 41 a3 c3 = .inr (1, tS B n a3) := by unfold gTk; rw [if_neg s41]
            rw [eT2] at hr
            refine Tm_end ?_
            rw [mst_G]
            unfold mG
            rw [if_neg (fun z => s41 z.1), if_neg gn3, if_neg gm3, hb3, if_neg (by omega), if_pos (by omega), hr _ rfl]
        · have eT : gTk B n 44 a2 c2 = .inr (1, tS B n a2) := by unfold gTk; rw [if_neg s44]
          rw [eT] at hr
          refine Tm_end ?_
          rw [mst_G]
          unfold mG
          rw [if_neg (by rw [hb]; omega), if_neg gn, if_neg gm, hb, if_pos hw, if_neg s44, hr _ rfl]
      · rw [if_neg (by rw [hcan]; decide)] at hr
        exact Tm_end (by rw [mst_P]; unfold mP; rw [if_neg s40, if_pos w2, if_pos s40b, if_pos ho6, hr _ rfl])
    · rw [if_neg s40b] at hr
      exact Tm_end (by rw [mst_P]; unfold mP; rw [if_neg s40, if_pos w2, if_neg s40b, hr _ rfl])
  rw [if_neg w2] at hi hr
  by_cases w3 : (wrd B n a = 18 ∨ wrd B n a = 3) ∧ pu = 13
  · rw [if_pos w3] at hi hr
    have wg := wrd_go (B := B) (n := n) (a := a) (by omega)
    rcases ho with ⟨hcan, ho6⟩ | ⟨hcan, ho6⟩
    · rw [if_pos hcan] at hi hr
      refine Tm_go (by rw [mst_P]; unfold mP; rw [if_neg s40, if_neg w2, if_pos w3, if_neg ho6]) (hQ hcan (tE B n a) c _ R (by omega) te (fun a2 c2 e2 => ?_) (fun z e2 => hr z (by rw [e2]; rfl)))
      rw [e2, bnd_l] at hi
      have h60 : (60 : Int) ≤ (if wrd B n a = 18 then 60 else 61) := by split <;> omega
      have edc : dc (if wrd B n a = 18 then 60 else 61) = -1 - wrd B n a := by
        rcases w3.1 with e | e
        · rw [if_pos e, e]; rfl
        · rw [if_neg (by omega), e]; rfl
      rw [eP_hi h60, edc]
      have eo : o + 1 - 1 = o := by omega
      rw [eo]
      exact hi _ _ rfl
    · rw [if_neg (by rw [hcan]; decide)] at hr
      exact Tm_end (by rw [mst_P]; unfold mP; rw [if_neg s40, if_neg w2, if_pos w3, if_pos ho6, hr _ rfl])
  rw [if_neg w3] at hi hr
  by_cases kn : gKn pu (wrd B n a) = true
  · rw [if_pos kn] at hi
    exact Tm_go (by rw [mst_P]; unfold mP; rw [if_neg s40, if_neg w2, if_neg w3, if_pos kn]) (hi _ _ rfl)
  · rw [if_neg kn] at hr
    exact Tm_end (by rw [mst_P]; unfold mP; rw [if_neg s40, if_neg w2, if_neg w3, if_neg kn, if_neg k2, hr _ rfl])
theorem sim_P (hn : n ≤ 1600) : ∀ d : Nat, d ≤ 6 → SP B n pu (gP B n pu d) (6 - (d : Int))
  | 0, _ => sim_part (can := false) hn (Or.inr ⟨rfl, rfl⟩) (fun z => by cases z) (fun z => by cases z)
  | d + 1, hd => by
    have ih := sim_P hn d (by omega)
    have eo : 6 - ((d + 1 : Nat) : Int) + 1 = 6 - (d : Int) := by omega
    refine sim_part (can := true) hn (Or.inl ⟨rfl, by omega⟩) (fun _ a c V R hV hl h0 h1 hi hr => ?_) (fun _ => by rw [eo]; exact ih)
    rw [eo] at hi ⊢
    exact sim_sum (adv_gP d) ih hV hl h0 h1 hi hr hn
theorem sim_S (hn : n ≤ 1600) {d : Nat} (hd : d ≤ 6) (h0 : 0 ≤ a) (h1 : a ≤ n) : Tm B n pu (false, a, c, [], 6 - (d : Int)) (gS B n pu d a c) := by
  refine sim_sum (adv_gP d) (sim_P hn d hd) trivial trivial h0 h1 (fun a2 c2 e2 c'' ops' hs' hc2 g0 g1 gn gm => ?_) (fun z e2 => e2) hn
  have hb : br (ops' ++ []) = -1 := by rw [br_app (fun v hv => (oS_op hs' v hv).2)]; rfl
  have e3 : gS B n pu d a c = .inl (a2, c2) := e2
  rw [e3]
  refine Tm_end ?_
  rw [mst_G]
  unfold mG
  rw [hb, if_neg (by omega), if_neg gn, if_neg gm, if_neg (by decide), if_neg (by decide), List.append_nil, ← hc2]
end
end
