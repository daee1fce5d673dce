section
-- the cells that sums and tests give: from any cells on alike, and well sorted
def okp (pu : Int) (p : List Int) : Prop := ∀ v ∈ p, (v = -15 → pu = 9) ∧ (v = -16 → pu = 11) ∧ (v = -18 ∨ v = -19 ∨ v = -4 → pu = 13)
def tyW (t : Bool) (m : Nat) (p : List Int) : Prop := ∀ ts : List Bool, ts.length + m ≤ 50 → ∃ u, wtR p ts = some (u :: ts) ∧ (t = true → u = true)
def tyX (t : Bool) (m : Nat) (p : List Int) : Prop := ∀ (v : Bool) (ts : List Bool), (t = true → v = true) → ts.length + 1 + m ≤ 50 → ∃ u, wtR p (v :: ts) = some (u :: ts) ∧ (t = true → u = true)
def tyG (pu : Int) (t : Bool) (m : Nat) (f : PT) : Prop := ∀ a, (∃ a' p, (∀ c, f a c = .inl (a', c ++ p)) ∧ okp pu p ∧ tyW t m p) ∨ (∃ z, ∀ c, f a c = .inr z)
def tyL (pu : Int) (t : Bool) (m : Nat) (f : PT) : Prop := ∀ a, (∃ a' p, (∀ c, f a c = .inl (a', c ++ p)) ∧ okp pu p ∧ tyX t m p) ∨ (∃ z, ∀ c, f a c = .inr z)
theorem wtR_app : ∀ (p q : List Int) (ts : List Bool), wtR (p ++ q) ts = (wtR p ts).bind (wtR q)
  | [], q, ts => rfl
  | c :: p, q, ts => by
    show (if ts.length < 60 then (match wtS ts c with
      | some ts' => wtR (p ++ q) ts'
      | none => none) else none) = (if ts.length < 60 then (match wtS ts c with
      | some ts' => wtR p ts'
      | none => none) else none).bind (wtR q)
    by_cases h : ts.length < 60
    · rw [if_pos h, if_pos h]
      cases wtS ts c with
      | none => rfl
      | some ts' => exact wtR_app p q ts'
    · rw [if_neg h, if_neg h]; rfl
theorem wtR_1 (x : Int) (ts : List Bool) : wtR [x] ts = if ts.length < 60 then wtS ts x else none := by
  show (if ts.length < 60 then (match wtS ts x with
      | some ts' => some ts'
      | none => none) else none) = _
  by_cases h : ts.length < 60
  · rw [if_pos h, if_pos h]
    cases wtS ts x <;> rfl
  · rw [if_neg h, if_neg h]
theorem okp_app {pu : Int} {p q : List Int} (hp : okp pu p) (hq : okp pu q) : okp pu (p ++ q) := fun v hv => (List.mem_append.mp hv).elim (hp v) (hq v)
theorem okp_1 {pu x : Int} (h : (x = -15 → pu = 9) ∧ (x = -16 → pu = 11) ∧ (x = -18 ∨ x = -19 ∨ x = -4 → pu = 13)) : okp pu [x] := fun v hv => by
  have e : v = x := by simpa using hv
  subst e; exact h
theorem okp_0 {pu : Int} : okp pu [] := fun v hv => by cases hv
theorem tyG_mono {pu : Int} {t : Bool} {m m' : Nat} {f : PT} (h : tyG pu t m f) (hm : m ≤ m') : tyG pu t m' f := fun a => (h a).elim (fun ⟨a', p, e, o, w⟩ => Or.inl ⟨a', p, e, o, fun ts hl => w ts (by omega)⟩) Or.inr
theorem op_n {x : Int} (h : x = 42 ∨ x = 43 ∨ x = 45 ∨ x = 47 ∨ x = 23 ∨ x = 24) (u v : Bool) (ts : List Bool) : wtS (u :: v :: ts) (-1 - x) = some (false :: ts) := by
  rcases h with rfl | rfl | rfl | rfl | rfl | rfl <;> first | rfl | simp [wtS, sIsP, sIsS]
theorem op_c {x : Int} (h : x = 60 ∨ x = 62 ∨ x = 61) (u v : Bool) (ts : List Bool) : wtS (u :: v :: ts) (-1 - x) = some (true :: ts) := by
  rcases h with rfl | rfl | rfl <;> first | rfl | simp [wtS, sIsP, sIsS]
theorem op_t {x : Int} (h : x = 19 ∨ x = 20) (ts : List Bool) : wtS (true :: true :: ts) (-1 - x) = some (true :: ts) := by
  rcases h with rfl | rfl <;> first | rfl | simp [wtS, sIsP, sIsS]
theorem opw_s {x : Int} (h : x = 18 ∨ x = 3) (u : Bool) (ts : List Bool) : ∃ r, wtS (u :: ts) (-1 - x) = some (r :: ts) := by
  rcases h with rfl | rfl
  · exact ⟨true, by first | rfl | simp [wtS, sIsP, sIsS]⟩
  · exact ⟨false, by first | rfl | simp [wtS, sIsP, sIsS]⟩
theorem op_not (ts : List Bool) : wtS (true :: ts) (-22) = some (true :: ts) := by first | rfl | simp [wtS, sIsP, sIsS]
section
variable {B : Int → Int} {n pu : Int} {m : Nat}
theorem ty_gLp {x y : Int} {f : PT} (hf : tyG pu false m f) (hx : x = 42 ∨ x = 43 ∨ x = 45 ∨ x = 47 ∨ x = 23 ∨ x = 24) (hy : y = 42 ∨ y = 43 ∨ y = 45 ∨ y = 47 ∨ y = 23 ∨ y = 24) : ∀ k : Nat, tyL pu false m (gLp B n x y f k)
  | 0 => fun a => Or.inl ⟨a, [], fun c => by rw [List.append_nil]; rfl, okp_0, fun v ts _ _ => ⟨v, rfl, fun z => by cases z⟩⟩
  | k + 1 => fun a => by
    by_cases z : sgn B n a = x ∨ sgn B n a = y
    · have ho : sgn B n a = 42 ∨ sgn B n a = 43 ∨ sgn B n a = 45 ∨ sgn B n a = 47 ∨ sgn B n a = 23 ∨ sgn B n a = 24 := by omega
      rcases hf (tE B n a) with ⟨a1, p1, e1, o1, t1⟩ | ⟨z1, e1⟩
      · rcases ty_gLp hf hx hy k a1 with ⟨a2, p2, e2, o2, t2⟩ | ⟨z2, e2⟩
        · refine Or.inl ⟨a2, p1 ++ [-1 - sgn B n a] ++ p2, fun c => ?_, okp_app (okp_app o1 (okp_1 (by omega))) o2, fun v ts hv hl => ?_⟩
          · rw [gLp_s, if_pos z, e1, bnd_l]
            unfold gAdd
            rw [bnd_l, e2]
            simp only [List.append_assoc]
          · obtain ⟨u1, w1, -⟩ := t1 (v :: ts) (by simp only [List.length_cons]; omega)
            obtain ⟨u2, w2, -⟩ := t2 false ts (fun z => by cases z) hl
            refine ⟨u2, ?_, fun z => by cases z⟩
            rw [wtR_app, wtR_app, w1, Option.bind_some, wtR_1, if_pos (by simp only [List.length_cons]; omega), op_n ho, Option.bind_some, w2]
        · refine Or.inr ⟨z2, fun c => ?_⟩
          rw [gLp_s, if_pos z, e1, bnd_l]
          unfold gAdd
          rw [bnd_l]
          exact e2 _
      · exact Or.inr ⟨z1, fun c => by rw [gLp_s, if_pos z, e1]; rfl⟩
    · exact Or.inl ⟨a, [], fun c => by rw [gLp_s, if_neg z, List.append_nil], okp_0, fun v ts _ _ => ⟨v, rfl, fun z => by cases z⟩⟩
theorem ty_gLw {w : Int} {f : PT} (hf : tyG pu true m f) (hw : w = 19 ∨ w = 20) : ∀ k : Nat, tyL pu true m (gLw B n w f k)
  | 0 => fun a => Or.inl ⟨a, [], fun c => by rw [List.append_nil]; rfl, okp_0, fun v ts hv _ => ⟨v, rfl, hv⟩⟩
  | k + 1 => fun a => by
    by_cases z : wrd B n a = w
    · rcases hf (tE B n a) with ⟨a1, p1, e1, o1, t1⟩ | ⟨z1, e1⟩
      · rcases ty_gLw hf hw k a1 with ⟨a2, p2, e2, o2, t2⟩ | ⟨z2, e2⟩
        · refine Or.inl ⟨a2, p1 ++ [-1 - w] ++ p2, fun c => ?_, okp_app (okp_app o1 (okp_1 (by omega))) o2, fun v ts hv hl => ?_⟩
          · rw [gLw_s, if_pos z, e1, bnd_l]
            unfold gAdd
            rw [bnd_l, e2]
            simp only [List.append_assoc]
          · obtain ⟨u1, w1, q1⟩ := t1 (v :: ts) (by simp only [List.length_cons]; omega)
            obtain ⟨u2, w2, q2⟩ := t2 true ts (fun _ => rfl) hl
            refine ⟨u2, ?_, q2⟩
            rw [wtR_app, wtR_app, w1, Option.bind_some, wtR_1, if_pos (by simp only [List.length_cons]; omega), q1 rfl, hv rfl, op_t hw, Option.bind_some, w2]
        · refine Or.inr ⟨z2, fun c => ?_⟩
          rw [gLw_s, if_pos z, e1, bnd_l]
          unfold gAdd
          rw [bnd_l]
          exact e2 _
      · exact Or.inr ⟨z1, fun c => by rw [gLw_s, if_pos z, e1]; rfl⟩
    · exact Or.inl ⟨a, [], fun c => by rw [gLw_s, if_neg z, List.append_nil], okp_0, fun v ts hv _ => ⟨v, rfl, hv⟩⟩
theorem ty_then {t : Bool} {f g : PT} (hf : tyG pu t m f) (hg : tyL pu t m g) : tyG pu t (m + 1) (fun a c => bnd (f a c) g) := fun a => by
  rcases hf a with ⟨a1, p1, e1, o1, t1⟩ | ⟨z1, e1⟩
  · rcases hg a1 with ⟨a2, p2, e2, o2, t2⟩ | ⟨z2, e2⟩
    · refine Or.inl ⟨a2, p1 ++ p2, fun c => ?_, okp_app o1 o2, fun ts hl => ?_⟩
      · show bnd (f a c) g = _
        rw [e1, bnd_l, e2, List.append_assoc]
      · obtain ⟨u1, w1, q1⟩ := t1 ts (by omega)
        obtain ⟨u2, w2, q2⟩ := t2 u1 ts q1 (by omega)
        exact ⟨u2, by rw [wtR_app, w1, Option.bind_some, w2], q2⟩
    · refine Or.inr ⟨z2, fun c => ?_⟩
      show bnd (f a c) g = _
      rw [e1, bnd_l, e2]
  · refine Or.inr ⟨z1, fun c => ?_⟩
    show bnd (f a c) g = _
    rw [e1]; rfl
theorem ty_gProd {f : PT} (hf : tyG pu false m f) : tyG pu false (m + 1) (gProd B n f) := ty_then hf (ty_gLp hf (by decide) (by decide) 1601)
theorem tyL_mono {t : Bool} {m' : Nat} {f : PT} (h : tyL pu t m f) (hm : m ≤ m') : tyL pu t m' f := fun a => (h a).elim (fun ⟨a', p, e, o, w⟩ => Or.inl ⟨a', p, e, o, fun v ts hv hl => w v ts hv (by omega)⟩) Or.inr
theorem ty_gSum {f : PT} (hf : tyG pu false m f) : tyG pu false (m + 2) (gSum B n f) := ty_then (ty_gProd hf) (ty_gLp (ty_gProd hf) (by decide) (by decide) 1601)
theorem ty_gBoth {f : PT} (hf : tyG pu true m f) : tyG pu true (m + 1) (gBoth B n f) := ty_then hf (ty_gLw hf (by decide) 1601)
theorem ty_gTest {f : PT} (hf : tyG pu true m f) : tyG pu true (m + 2) (gTest B n f) := ty_then (ty_gBoth hf) (ty_gLw (ty_gBoth hf) (by decide) 1601)
theorem ty_gTk {t : Bool} {x : Int} {f : PT} (hf : tyG pu t m f) : tyG pu t m (fun a c => bnd (f a c) (gTk B n x)) := fun a => by
  rcases hf a with ⟨a1, p1, e1, o1, t1⟩ | ⟨z1, e1⟩
  · by_cases q : sgn B n a1 = x
    · refine Or.inl ⟨tE B n a1, p1, fun c => ?_, o1, t1⟩
      show bnd (f a c) _ = _
      rw [e1, bnd_l]
      unfold gTk
      rw [if_pos q]
    · refine Or.inr ⟨(1, tS B n a1), fun c => ?_⟩
      show bnd (f a c) _ = _
      rw [e1, bnd_l]
      unfold gTk
      rw [if_neg q]
  · refine Or.inr ⟨z1, fun c => ?_⟩
    show bnd (f a c) _ = _
    rw [e1]; rfl
/-- one behind the other, then joined -/
theorem ty_two {t s1 s2 : Bool} {x : Int} {f g : PT} (hf : tyG pu s1 m f) (hg : tyG pu s2 m g) (ho : ∀ u v ts, wtS (u :: v :: ts) (-1 - x) = some (t :: ts)) (hx : x ≠ 14 ∧ x ≠ 15 ∧ x ≠ 17 ∧ x ≠ 18 ∧ x ≠ 3) : tyG pu t (m + 1) (fun a c => bnd (bnd (f a c) g) (gAdd (-1 - x))) := fun a => by
  rcases hf a with ⟨a1, p1, e1, o1, t1⟩ | ⟨z1, e1⟩
  · rcases hg a1 with ⟨a2, p2, e2, o2, t2⟩ | ⟨z2, e2⟩
    · refine Or.inl ⟨a2, p1 ++ p2 ++ [-1 - x], fun c => ?_, okp_app (okp_app o1 o2) (okp_1 (by omega)), fun ts hl => ?_⟩
      · show bnd (bnd (f a c) g) _ = _
        rw [e1, bnd_l, e2, bnd_l]
        unfold gAdd
        simp only [List.append_assoc]
      · obtain ⟨u1, w1, q1⟩ := t1 ts (by omega)
        obtain ⟨u2, w2, q2⟩ := t2 (u1 :: ts) (by simp only [List.length_cons]; omega)
        exact ⟨t, by rw [wtR_app, wtR_app, w1, Option.bind_some, w2, Option.bind_some, wtR_1, if_pos (by simp only [List.length_cons]; omega), ho], id⟩
    · refine Or.inr ⟨z2, fun c => ?_⟩
      show bnd (bnd (f a c) g) _ = _
      rw [e1, bnd_l, e2]; rfl
  · refine Or.inr ⟨z1, fun c => ?_⟩
    show bnd (bnd (f a c) g) _ = _
    rw [e1]; rfl
theorem ty_gPart {can : Bool} {S Q : PT} (hS : can = true → tyG pu false m S) (hQ : can = true → tyG pu false m Q) : tyG pu false (m + 1) (gPart B n pu can S Q) := by
  intro a
  unfold gPart
  by_cases k2 : tK B n a = 2
  · simp only [if_pos k2]
    unfold gNum
    by_cases l4 : 4 < tE B n a - tS B n a
    · exact Or.inr ⟨_, fun c => if_pos l4⟩
    · have r := tN_rg k2
      refine Or.inl ⟨_, [tN B n a], fun c => if_neg l4, okp_1 (by omega), fun ts hl => ⟨decide (tN B n a ≤ 1), ?_, fun z => by cases z⟩⟩
      rw [wtR_1, if_pos (by omega)]
      unfold wtS
      rw [if_pos r.1, if_pos r.2]
  simp only [if_neg k2]
  by_cases s40 : sgn B n a = 40
  · simp only [if_pos s40]
    cases can with
    | false => exact Or.inr ⟨(4, tS B n a), fun c => rfl⟩
    | true => exact tyG_mono (ty_gTk (B := B) (n := n) (x := 41) (hS rfl)) (by omega) (tE B n a)
  simp only [if_neg s40]
  by_cases w23 : wrd B n a = 23 ∨ wrd B n a = 24
  · simp only [if_pos w23]
    unfold gPair
    by_cases s2 : sgn B n (tE B n a) = 40
    · simp only [if_pos s2]
      cases can with
      | false => exact Or.inr ⟨(4, tS B n (tE B n a)), fun c => rfl⟩
      | true =>
        have hs := hS rfl
        have h1 := ty_gTk (B := B) (n := n) (x := 44) hs
        have h2 := ty_gTk (B := B) (n := n) (x := 41) hs
        have h3 := ty_two (x := wrd B n a) (t := false) h1 h2 (fun u v ts => op_n (by omega) u v ts) (by omega) (tE B n (tE B n a))
        rcases h3 with ⟨a', p, e, o, t⟩ | ⟨z, e⟩
        · refine Or.inl ⟨a', p, fun c => (Eq.trans ?_ (e c)), o, t⟩
          simp only [bnd_bnd, if_true]
        · refine Or.inr ⟨z, fun c => (Eq.trans ?_ (e c))⟩
          simp only [bnd_bnd, if_true]
    · simp only [if_neg s2]
      exact Or.inr ⟨_, fun c => rfl⟩
  simp only [if_neg w23]
  by_cases w18 : (wrd B n a = 18 ∨ wrd B n a = 3) ∧ pu = 13
  · simp only [if_pos w18]
    cases can with
    | false => exact Or.inr ⟨(4, tS B n a), fun c => rfl⟩
    | true =>
      rcases hQ rfl (tE B n a) with ⟨a1, p1, e1, o1, t1⟩ | ⟨z1, e1⟩
      · refine Or.inl ⟨a1, p1 ++ [-1 - wrd B n a], fun c => ?_, okp_app o1 (okp_1 (by omega)), fun ts hl => ?_⟩
        · rw [if_pos rfl, e1, bnd_l]
          unfold gAdd
          rw [List.append_assoc]
        · obtain ⟨u1, w1, q1⟩ := t1 ts (by omega)
          obtain ⟨r, hr⟩ := opw_s w18.1 u1 ts
          exact ⟨r, by rw [wtR_app, w1, Option.bind_some, wtR_1, if_pos (by simp only [List.length_cons]; omega), hr], fun z => by cases z⟩
      · exact Or.inr ⟨z1, fun c => by rw [if_pos rfl, e1]; rfl⟩
  simp only [if_neg w18]
  by_cases kn : gKn pu (wrd B n a) = true
  · simp only [if_pos kn]
    unfold gKn at kn
    simp only [Bool.or_eq_true, Bool.and_eq_true, decide_eq_true_eq] at kn
    refine Or.inl ⟨_, [-1 - wrd B n a], fun c => rfl, okp_1 (by omega), fun ts hl => ⟨false, ?_, fun z => by cases z⟩⟩
    rw [wtR_1, if_pos (by omega)]
    have e : -1 - (-1 - wrd B n a) = wrd B n a := by omega
    unfold wtS
    rw [if_neg (by omega), e, if_pos (by
      unfold sIsP
      simp only [Bool.or_eq_true, Bool.and_eq_true, decide_eq_true_eq]
      omega)]
  · simp only [if_neg kn]
    exact Or.inr ⟨_, fun c => rfl⟩
theorem ty_gP : ∀ d : Nat, tyG pu false (3 * d + 1) (gP B n pu d)
  | 0 => ty_gPart (m := 0) (fun z => by cases z) (fun z => by cases z)
  | d + 1 => tyG_mono (ty_gPart (m := 3 * d + 3) (fun _ => ty_gSum (ty_gP d)) (fun _ => tyG_mono (ty_gP d) (by omega))) (by omega)
theorem ty_gS (d : Nat) : tyG pu false (3 * d + 3) (gS B n pu d) := ty_gSum (ty_gP d)
theorem ty_gCmp {S : PT} (hS : tyG pu false m S) : tyG pu true (m + 1) (gCmp B n S) := by
  intro a
  unfold gCmp
  rcases hS a with ⟨a1, p1, e1, o1, t1⟩ | ⟨z1, e1⟩
  · by_cases q : sgn B n a1 = 60 ∨ sgn B n a1 = 62 ∨ sgn B n a1 = 61
    · rcases hS (tE B n a1) with ⟨a2, p2, e2, o2, t2⟩ | ⟨z2, e2⟩
      · refine Or.inl ⟨a2, p1 ++ p2 ++ [-1 - sgn B n a1], fun c => ?_, okp_app (okp_app o1 o2) (okp_1 (by omega)), fun ts hl => ?_⟩
        · rw [e1, bnd_l, if_pos q, e2, bnd_l]
          unfold gAdd
          simp only [List.append_assoc]
        · obtain ⟨u1, w1, q1⟩ := t1 ts (by omega)
          obtain ⟨u2, w2, q2⟩ := t2 (u1 :: ts) (by simp only [List.length_cons]; omega)
          exact ⟨true, by rw [wtR_app, wtR_app, w1, Option.bind_some, w2, Option.bind_some, wtR_1, if_pos (by simp only [List.length_cons]; omega), op_c q], id⟩
      · refine Or.inr ⟨z2, fun c => ?_⟩
        rw [e1, bnd_l, if_pos q, e2]; rfl
    · refine Or.inr ⟨(1, tS B n a1), fun c => ?_⟩
      rw [e1, bnd_l, if_neg q]
  · refine Or.inr ⟨z1, fun c => ?_⟩
    rw [e1]; rfl
theorem ty_gFact {can : Bool} {S T F : PT} (hS : tyG pu false m S) (hT : can = true → tyG pu true m T) (hF : can = true → tyG pu true m F) : tyG pu true (m + 1) (gFact B n can S T F) := by
  intro a
  unfold gFact
  by_cases w21 : wrd B n a = 21
  · simp only [if_pos w21]
    cases can with
    | false => exact Or.inr ⟨(4, tS B n a), fun c => rfl⟩
    | true =>
      rcases hF rfl (tE B n a) with ⟨a1, p1, e1, o1, t1⟩ | ⟨z1, e1⟩
      · refine Or.inl ⟨a1, p1 ++ [-22], fun c => ?_, okp_app o1 (okp_1 (by omega)), fun ts hl => ?_⟩
        · rw [if_pos rfl, e1, bnd_l]
          unfold gAdd
          rw [List.append_assoc]
        · obtain ⟨u1, w1, q1⟩ := t1 ts (by omega)
          exact ⟨true, by rw [wtR_app, w1, Option.bind_some, wtR_1, if_pos (by simp only [List.length_cons]; omega), q1 rfl, op_not], id⟩
      · exact Or.inr ⟨z1, fun c => by rw [if_pos rfl, e1]; rfl⟩
  simp only [if_neg w21]
  by_cases s91 : sgn B n a = 91
  · simp only [if_pos s91]
    cases can with
    | false => exact Or.inr ⟨(4, tS B n a), fun c => rfl⟩
    | true => exact tyG_mono (ty_gTk (B := B) (n := n) (x := 93) (hT rfl)) (by omega) (tE B n a)
  simp only [if_neg s91]
  by_cases w22 : wrd B n a = 22
  · simp only [if_pos w22]
    refine Or.inl ⟨_, [1], fun c => rfl, okp_1 (by omega), fun ts hl => ⟨true, ?_, id⟩⟩
    rw [wtR_1, if_pos (by omega)]
    rfl
  · simp only [if_neg w22]
    exact ty_gCmp hS a
theorem ty_gF : ∀ d : Nat, tyG pu true (3 * d + 4) (gF B n pu d)
  | 0 => ty_gFact (m := 3) (ty_gS 0) (fun z => by cases z) (fun z => by cases z)
  | d + 1 => tyG_mono (ty_gFact (m := 3 * d + 6) (ty_gS (d + 1)) (fun _ => ty_gTest (ty_gF d)) (fun _ => tyG_mono (ty_gF d) (by omega))) (by omega)
theorem ty_gT (d : Nat) : tyG pu true (3 * d + 6) (gT B n pu d) := ty_gTest (ty_gF d)
/-- a rule's reading: a test or a sum -/
def gR (B : Int → Int) (n pu : Int) (t : Bool) : PT := if t = true then gT B n pu 6 else gS B n pu 6
theorem ty_gR (t : Bool) (a : Int) : (∃ a' p u, (∀ c, gR B n pu t a c = .inl (a', c ++ p)) ∧ okp pu p ∧ wtR p [] = some [u] ∧ (t = true → u = true)) ∨ (∃ z, ∀ c, gR B n pu t a c = .inr z) := by
  unfold gR
  cases t with
  | true =>
    rcases ty_gT (B := B) (n := n) (pu := pu) 6 a with ⟨a', p, e, o, w⟩ | ⟨z, e⟩
    · obtain ⟨u, w1, w2⟩ := w [] (by decide)
      exact Or.inl ⟨a', p, u, e, o, w1, w2⟩
    · exact Or.inr ⟨z, e⟩
  | false =>
    rcases ty_gS (B := B) (n := n) (pu := pu) 6 a with ⟨a', p, e, o, w⟩ | ⟨z, e⟩
    · obtain ⟨u, w1, w2⟩ := w [] (by decide)
      exact Or.inl ⟨a', p, u, e, o, w1, w2⟩
    · exact Or.inr ⟨z, e⟩
theorem adv_gR (t : Bool) : Adv n (gR B n pu t) := by
  unfold gR
  cases t with
  | true => exact adv_gT 6
  | false => exact adv_gS 6
end
end
