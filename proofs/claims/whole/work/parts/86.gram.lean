section
-- the grammar: a question or rule as it is read, from place a on, with the cells c that stand already; or a fault's kind and place
abbrev PS : Type := (Int × List Int) ⊕ (Int × Int)
abbrev PT : Type := Int → List Int → PS
def bnd (r : PS) (f : PT) : PS := match r with
  | .inl q => f q.1 q.2
  | .inr z => .inr z
theorem bnd_l {a : Int} {c : List Int} {f : PT} : bnd (.inl (a, c)) f = f a c := rfl
theorem bnd_r {z : Int × Int} {f : PT} : bnd (.inr z) f = .inr z := rfl
theorem bnd_bnd {r : PS} {f g : PT} : bnd (bnd r f) g = bnd r (fun a c => bnd (f a c) g) := by
  cases r <;> rfl
def sgn (B : Int → Int) (n a : Int) : Int := if tK B n a = 3 then B (tS B n a) else -1
def wrd (B : Int → Int) (n a : Int) : Int := if tK B n a = 1 then tW B n a else -1
def gAdd (v : Int) : PT := fun a c => .inl (a, c ++ [v])
def gTk (B : Int → Int) (n x : Int) : PT := fun a c => if sgn B n a = x then .inl (tE B n a, c) else .inr (1, tS B n a)
def gNum (B : Int → Int) (n : Int) : PT := fun a c => if 4 < tE B n a - tS B n a then .inr (1, tS B n a + 4) else .inl (tE B n a, c ++ [tN B n a])
def gKn (pu w : Int) : Bool := decide (w = 6) || decide (w = 5) || decide (w = 7) || decide (w = 13) || (decide (w = 14) && decide (pu = 9)) || (decide (w = 15) && decide (pu = 11)) || ((decide (w = 16) || decide (w = 17)) && decide (pu = 13))
def gPair (B : Int → Int) (n : Int) (can : Bool) (S : PT) (w : Int) : PT := fun a c => if sgn B n a = 40 then (if can = true then bnd (bnd (bnd (bnd (S (tE B n a) c) (gTk B n 44)) S) (gTk B n 41)) (gAdd (-1 - w)) else .inr (4, tS B n a)) else .inr (1, tS B n a)
def gPart (B : Int → Int) (n pu : Int) (can : Bool) (S Q : PT) : PT := fun a c =>
  if tK B n a = 2 then gNum B n a c
  else if sgn B n a = 40 then (if can = true then bnd (S (tE B n a) c) (gTk B n 41) else .inr (4, tS B n a))
  else if wrd B n a = 23 ∨ wrd B n a = 24 then gPair B n can S (wrd B n a) (tE B n a) c
  else if (wrd B n a = 18 ∨ wrd B n a = 3) ∧ pu = 13 then (if can = true then bnd (Q (tE B n a) c) (gAdd (-1 - wrd B n a)) else .inr (4, tS B n a))
  else if gKn pu (wrd B n a) = true then .inl (tE B n a, c ++ [-1 - wrd B n a])
  else .inr (1, tS B n a)
def gLp (B : Int → Int) (n : Int) (x y : Int) (f : PT) : Nat → PT
  | 0, a, c => .inl (a, c)
  | k + 1, a, c => if sgn B n a = x ∨ sgn B n a = y then bnd (bnd (f (tE B n a) c) (gAdd (-1 - sgn B n a))) (gLp B n x y f k) else .inl (a, c)
def gLw (B : Int → Int) (n : Int) (w : Int) (f : PT) : Nat → PT
  | 0, a, c => .inl (a, c)
  | k + 1, a, c => if wrd B n a = w then bnd (bnd (f (tE B n a) c) (gAdd (-1 - w))) (gLw B n w f k) else .inl (a, c)
def gProd (B : Int → Int) (n : Int) (f : PT) : PT := fun a c => bnd (f a c) (gLp B n 42 47 f 1601)
def gSum (B : Int → Int) (n : Int) (f : PT) : PT := fun a c => bnd (gProd B n f a c) (gLp B n 43 45 (gProd B n f) 1601)
def gCmp (B : Int → Int) (n : Int) (S : PT) : PT := fun a c => bnd (S a c) (fun a1 c1 => if sgn B n a1 = 60 ∨ sgn B n a1 = 62 ∨ sgn B n a1 = 61 then bnd (S (tE B n a1) c1) (gAdd (-1 - sgn B n a1)) else .inr (1, tS B n a1))
def gFact (B : Int → Int) (n : Int) (can : Bool) (S T F : PT) : PT := fun a c =>
  if wrd B n a = 21 then (if can = true then bnd (F (tE B n a) c) (gAdd (-22)) else .inr (4, tS B n a))
  else if sgn B n a = 91 then (if can = true then bnd (T (tE B n a) c) (gTk B n 93) else .inr (4, tS B n a))
  else if wrd B n a = 22 then .inl (tE B n a, c ++ [1])
  else gCmp B n S a c
def gBoth (B : Int → Int) (n : Int) (F : PT) : PT := fun a c => bnd (F a c) (gLw B n 20 F 1601)
def gTest (B : Int → Int) (n : Int) (F : PT) : PT := fun a c => bnd (gBoth B n F a c) (gLw B n 19 (gBoth B n F) 1601)
def gP (B : Int → Int) (n pu : Int) : Nat → PT
  | 0 => gPart B n pu false (fun _ _ => .inr (0, 0)) (fun _ _ => .inr (0, 0))
  | d + 1 => gPart B n pu true (gSum B n (gP B n pu d)) (gP B n pu d)
def gS (B : Int → Int) (n pu : Int) (d : Nat) : PT := gSum B n (gP B n pu d)
def gF (B : Int → Int) (n pu : Int) : Nat → PT
  | 0 => gFact B n false (gS B n pu 0) (fun _ _ => .inr (0, 0)) (fun _ _ => .inr (0, 0))
  | d + 1 => gFact B n true (gS B n pu (d + 1)) (gTest B n (gF B n pu d)) (gF B n pu d)
def gT (B : Int → Int) (n pu : Int) (d : Nat) : PT := gTest B n (gF B n pu d)
-- places go on, cells are no more than bytes
def adv (n a : Int) (c : List Int) (r : PS) : Prop := match r with
  | .inl q => a < q.1 ∧ q.1 ≤ n ∧ (q.2.length : Int) + a ≤ c.length + q.1
  | .inr _ => True
def adl (n a : Int) (c : List Int) (r : PS) : Prop := match r with
  | .inl q => a ≤ q.1 ∧ q.1 ≤ n ∧ (q.2.length : Int) + a ≤ c.length + q.1
  | .inr _ => True
def Adv (n : Int) (f : PT) : Prop := ∀ a c, 0 ≤ a → a ≤ n → adv n a c (f a c)
theorem sgn_go {B : Int → Int} {n a : Int} (h : 0 ≤ sgn B n a) : a < tE B n a ∧ tS B n a < n ∧ tK B n a = 3 := by
  have s := tS_sp B n a
  have e := tE_ge B n a
  unfold sgn at h
  by_cases z : tK B n a = 3
  · have hlt : tS B n a < n := by
      by_cases q : tS B n a < n
      · exact q
      · unfold tK at z; rw [if_neg q] at z; omega
    exact ⟨by have := e.2 hlt; omega, hlt, z⟩
  · rw [if_neg z] at h; omega
theorem wrd_go {B : Int → Int} {n a : Int} (h : 0 ≤ wrd B n a) : a < tE B n a ∧ tS B n a < n ∧ tK B n a = 1 ∧ wrd B n a = tW B n a := by
  have s := tS_sp B n a
  have e := tE_ge B n a
  unfold wrd at h
  by_cases z : tK B n a = 1
  · have hlt : tS B n a < n := by
      by_cases q : tS B n a < n
      · exact q
      · unfold tK at z; rw [if_neg q] at z; omega
    exact ⟨by have := e.2 hlt; omega, hlt, z, by unfold wrd; rw [if_pos z]⟩
  · rw [if_neg z] at h; omega
theorem num_go {B : Int → Int} {n a : Int} (z : tK B n a = 2) : a < tE B n a ∧ tS B n a < n := by
  have s := tS_sp B n a
  have e := tE_ge B n a
  have hlt : tS B n a < n := by
    by_cases q : tS B n a < n
    · exact q
    · unfold tK at z; rw [if_neg q] at z; omega
  exact ⟨by have := e.2 hlt; omega, hlt⟩
theorem adv_bnd {n a : Int} {c : List Int} {r : PS} {f : PT} (h0 : 0 ≤ a) (h : adv n a c r) (hf : ∀ a1 c1, a < a1 → a1 ≤ n → (c1.length : Int) + a ≤ c.length + a1 → adv n a c (f a1 c1)) : adv n a c (bnd r f) := by
  cases r with
  | inl q => exact hf q.1 q.2 h.1 h.2.1 h.2.2
  | inr z => exact trivial
section
variable {B : Int → Int} {n pu : Int}
theorem adv_gTk {x a a0 : Int} {c c0 : List Int} (hx : 0 ≤ x) (ha : a0 < a) (h1 : a ≤ n) (hc : (c.length : Int) + a0 ≤ c0.length + a) : adv n a0 c0 (gTk B n x a c) := by
  unfold gTk
  split
  · rename_i z
    have g := sgn_go (B := B) (n := n) (a := a) (by omega)
    have := tE_le (B := B) h1
    exact ⟨by show a0 < tE B n a; omega, this, by show (c.length : Int) + a0 ≤ c0.length + tE B n a; omega⟩
  · exact trivial
theorem adv_gPart {can : Bool} {S Q : PT} (hS : can = true → Adv n S) (hQ : can = true → Adv n Q) : Adv n (gPart B n pu can S Q) := by
  intro a c h0 h1
  have te := tE_le (B := B) h1
  unfold gPart
  split
  · rename_i z
    have g := num_go z
    unfold gNum
    split
    · exact trivial
    · exact ⟨g.1, te, by show (((c ++ [tN B n a]).length : Nat) : Int) + a ≤ c.length + tE B n a; rw [List.length_append]; simp; omega⟩
  split
  · rename_i z
    have g := sgn_go (B := B) (n := n) (a := a) (by omega)
    split
    · rename_i hc
      have hs := hS hc (tE B n a) c (by omega) te
      revert hs
      generalize S (tE B n a) c = r
      intro hs
      cases r with
      | inl q => exact adv_gTk (by decide) (by have := hs.1; omega) hs.2.1 (by have := hs.2.2; omega)
      | inr z => exact trivial
    · exact trivial
  split
  · rename_i z
    have g := wrd_go (B := B) (n := n) (a := a) (by omega)
    unfold gPair
    split
    · rename_i z2
      have g2 := sgn_go (B := B) (n := n) (a := tE B n a) (by omega)
      have te2 := tE_le (B := B) te
      split
      · rename_i hc
        have hs := hS hc (tE B n (tE B n a)) c (by omega) te2
        revert hs
        generalize S (tE B n (tE B n a)) c = r
        intro hs
        cases r with
        | inr z => exact trivial
        | inl q =>
          have h3 : adv n a c (gTk B n 44 q.1 q.2) := adv_gTk (by decide) (by have := hs.1; omega) hs.2.1 (by have := hs.2.2; omega)
          have h3b : (adv n (tE B n a) c (gTk B n 44 q.1 q.2)) := adv_gTk (by decide) (by have := hs.1; omega) hs.2.1 (by have := hs.2.2; omega)
          show adv n a c (bnd (bnd (bnd (gTk B n 44 q.1 q.2) S) (gTk B n 41)) (gAdd (-1 - wrd B n a)))
          revert h3b
          generalize gTk B n 44 q.1 q.2 = r2
          intro h3b
          cases r2 with
          | inr z => exact trivial
          | inl q2 =>
            have hs2 := hS hc q2.1 q2.2 (by have := h3b.1; omega) h3b.2.1
            show adv n a c (bnd (bnd (S q2.1 q2.2) (gTk B n 41)) (gAdd (-1 - wrd B n a)))
            revert hs2
            generalize S q2.1 q2.2 = r3
            intro hs2
            cases r3 with
            | inr z => exact trivial
            | inl q3 =>
              have h4 : adv n (tE B n a) c (gTk B n 41 q3.1 q3.2) := adv_gTk (by decide) (by have := hs2.1; have := h3b.1; omega) hs2.2.1 (by have := hs2.2.2; have := h3b.2.2; omega)
              show adv n a c (bnd (gTk B n 41 q3.1 q3.2) (gAdd (-1 - wrd B n a)))
              revert h4
              generalize gTk B n 41 q3.1 q3.2 = r4
              intro h4
              cases r4 with
              | inr z => exact trivial
              | inl q4 => exact ⟨by show a < q4.1; have := h4.1; omega, h4.2.1, by show (((q4.2 ++ [-1 - wrd B n a]).length : Nat) : Int) + a ≤ c.length + q4.1; rw [List.length_append]; simp; have := h4.2.2; omega⟩
      · exact trivial
    · exact trivial
  split
  · rename_i z
    have g := wrd_go (B := B) (n := n) (a := a) (by omega)
    split
    · rename_i hc
      have hs := hQ hc (tE B n a) c (by omega) te
      revert hs
      generalize Q (tE B n a) c = r
      intro hs
      cases r with
      | inr z => exact trivial
      | inl q => exact ⟨by show a < q.1; have := hs.1; omega, hs.2.1, by show (((q.2 ++ [-1 - wrd B n a]).length : Nat) : Int) + a ≤ c.length + q.1; rw [List.length_append]; simp; have := hs.2.2; omega⟩
    · exact trivial
  split
  · rename_i z
    have hw : 0 ≤ wrd B n a := by
      unfold gKn at z
      simp only [Bool.or_eq_true, Bool.and_eq_true, decide_eq_true_eq] at z
      omega
    have g := wrd_go hw
    exact ⟨g.1, te, by show (((c ++ [-1 - wrd B n a]).length : Nat) : Int) + a ≤ c.length + tE B n a; rw [List.length_append]; simp; omega⟩
  · exact trivial
theorem adl_gLp {x y : Int} {f : PT} (hx : 0 ≤ x ∧ 0 ≤ y) (hf : Adv n f) : ∀ (k : Nat) (a : Int) (c : List Int), 0 ≤ a → a ≤ n → adl n a c (gLp B n x y f k a c)
  | 0, a, c, h0, h1 => ⟨Int.le_refl _, h1, Int.le_refl _⟩
  | k + 1, a, c, h0, h1 => by
    unfold gLp
    split
    · rename_i z
      have g := sgn_go (B := B) (n := n) (a := a) (by omega)
      have te := tE_le (B := B) h1
      have hs := hf (tE B n a) c (by omega) te
      revert hs
      generalize f (tE B n a) c = r
      intro hs
      cases r with
      | inr z => exact trivial
      | inl q =>
        have ih := adl_gLp hx hf k q.1 (q.2 ++ [-1 - sgn B n a]) (by have := hs.1; omega) hs.2.1
        show adl n a c (gLp B n x y f k q.1 (q.2 ++ [-1 - sgn B n a]))
        revert ih
        generalize gLp B n x y f k q.1 (q.2 ++ [-1 - sgn B n a]) = r2
        intro ih
        cases r2 with
        | inr z => exact trivial
        | inl q2 =>
          have i3 := ih.2.2
          rw [List.length_append] at i3
          simp at i3
          exact ⟨by have := ih.1; have := hs.1; omega, ih.2.1, by have := hs.2.2; omega⟩
    · exact ⟨Int.le_refl _, h1, Int.le_refl _⟩
theorem adl_gLw {w : Int} {f : PT} (hw : 0 ≤ w) (hf : Adv n f) : ∀ (k : Nat) (a : Int) (c : List Int), 0 ≤ a → a ≤ n → adl n a c (gLw B n w f k a c)
  | 0, a, c, h0, h1 => ⟨Int.le_refl _, h1, Int.le_refl _⟩
  | k + 1, a, c, h0, h1 => by
    unfold gLw
    split
    · rename_i z
      have g := wrd_go (B := B) (n := n) (a := a) (by omega)
      have te := tE_le (B := B) h1
      have hs := hf (tE B n a) c (by omega) te
      revert hs
      generalize f (tE B n a) c = r
      intro hs
      cases r with
      | inr z => exact trivial
      | inl q =>
        have ih := adl_gLw hw hf k q.1 (q.2 ++ [-1 - w]) (by have := hs.1; omega) hs.2.1
        show adl n a c (gLw B n w f k q.1 (q.2 ++ [-1 - w]))
        revert ih
        generalize gLw B n w f k q.1 (q.2 ++ [-1 - w]) = r2
        intro ih
        cases r2 with
        | inr z => exact trivial
        | inl q2 =>
          have i3 := ih.2.2
          rw [List.length_append] at i3
          simp at i3
          exact ⟨by have := ih.1; have := hs.1; omega, ih.2.1, by have := hs.2.2; omega⟩
    · exact ⟨Int.le_refl _, h1, Int.le_refl _⟩
theorem adv_then {f : PT} {g : PT} (hf : Adv n f) (hg : ∀ a c, 0 ≤ a → a ≤ n → adl n a c (g a c)) : Adv n (fun a c => bnd (f a c) g) := by
  intro a c h0 h1
  have hs := hf a c h0 h1
  show adv n a c (bnd (f a c) g)
  revert hs
  generalize f a c = r
  intro hs
  cases r with
  | inr z => exact trivial
  | inl q =>
    have ih := hg q.1 q.2 (by have := hs.1; omega) hs.2.1
    show adv n a c (g q.1 q.2)
    revert ih
    generalize g q.1 q.2 = r2
    intro ih
    cases r2 with
    | inr z => exact trivial
    | inl q2 => exact ⟨by have := ih.1; have := hs.1; omega, ih.2.1, by have := ih.2.2; have := hs.2.2; omega⟩
theorem adv_gProd {f : PT} (hf : Adv n f) : Adv n (gProd B n f) := adv_then hf (fun a c h0 h1 => adl_gLp (by decide) hf 1601 a c h0 h1)
theorem adv_gSum {f : PT} (hf : Adv n f) : Adv n (gSum B n f) := adv_then (adv_gProd hf) (fun a c h0 h1 => adl_gLp (by decide) (adv_gProd hf) 1601 a c h0 h1)
theorem adv_gBoth {f : PT} (hf : Adv n f) : Adv n (gBoth B n f) := adv_then hf (fun a c h0 h1 => adl_gLw (by decide) hf 1601 a c h0 h1)
theorem adv_gTest {f : PT} (hf : Adv n f) : Adv n (gTest B n f) := adv_then (adv_gBoth hf) (fun a c h0 h1 => adl_gLw (by decide) (adv_gBoth hf) 1601 a c h0 h1)
theorem adv_gP : ∀ d : Nat, Adv n (gP B n pu d)
  | 0 => adv_gPart (fun z => by cases z) (fun z => by cases z)
  | d + 1 => adv_gPart (fun _ => adv_gSum (adv_gP d)) (fun _ => adv_gP d)
theorem adv_gS (d : Nat) : Adv n (gS B n pu d) := adv_gSum (adv_gP d)
theorem adv_gCmp {S : PT} (hS : Adv n S) : Adv n (gCmp B n S) := by
  intro a c h0 h1
  have hs := hS a c h0 h1
  unfold gCmp
  revert hs
  generalize S a c = r
  intro hs
  cases r with
  | inr z => exact trivial
  | inl q =>
    show adv n a c (if sgn B n q.1 = 60 ∨ sgn B n q.1 = 62 ∨ sgn B n q.1 = 61 then bnd (S (tE B n q.1) q.2) (gAdd (-1 - sgn B n q.1)) else .inr (1, tS B n q.1))
    split
    · rename_i z
      have g := sgn_go (B := B) (n := n) (a := q.1) (by omega)
      have te := tE_le (B := B) hs.2.1
      have hs2 := hS (tE B n q.1) q.2 (by have := hs.1; omega) te
      revert hs2
      generalize S (tE B n q.1) q.2 = r2
      intro hs2
      cases r2 with
      | inr z => exact trivial
      | inl q2 => exact ⟨by show a < q2.1; have := hs.1; have := hs2.1; omega, hs2.2.1, by show (((q2.2 ++ [-1 - sgn B n q.1]).length : Nat) : Int) + a ≤ c.length + q2.1; rw [List.length_append]; simp; have := hs.2.2; have := hs2.2.2; omega⟩
    · exact trivial
theorem adv_gFact {can : Bool} {S T F : PT} (hS : Adv n S) (hT : can = true → Adv n T) (hF : can = true → Adv n F) : Adv n (gFact B n can S T F) := by
  intro a c h0 h1
  have te := tE_le (B := B) h1
  unfold gFact
  split
  · rename_i z
    have g := wrd_go (B := B) (n := n) (a := a) (by omega)
    split
    · rename_i hc
      have hs := hF hc (tE B n a) c (by omega) te
      revert hs
      generalize F (tE B n a) c = r
      intro hs
      cases r with
      | inr z => exact trivial
      | inl q => exact ⟨by show a < q.1; have := hs.1; omega, hs.2.1, by show (((q.2 ++ [-22]).length : Nat) : Int) + a ≤ c.length + q.1; rw [List.length_append]; simp; have := hs.2.2; omega⟩
    · exact trivial
  split
  · rename_i z
    have g := sgn_go (B := B) (n := n) (a := a) (by omega)
    split
    · rename_i hc
      have hs := hT hc (tE B n a) c (by omega) te
      revert hs
      generalize T (tE B n a) c = r
      intro hs
      cases r with
      | inr z => exact trivial
      | inl q => exact adv_gTk (by decide) (by have := hs.1; omega) hs.2.1 (by have := hs.2.2; omega)
    · exact trivial
  split
  · rename_i z
    have g := wrd_go (B := B) (n := n) (a := a) (by omega)
    exact ⟨g.1, te, by show (((c ++ [1]).length : Nat) : Int) + a ≤ c.length + tE B n a; rw [List.length_append]; simp; omega⟩
  · exact adv_gCmp hS a c h0 h1
theorem adv_gF : ∀ d : Nat, Adv n (gF B n pu d)
  | 0 => adv_gFact (adv_gS 0) (fun z => by cases z) (fun z => by cases z)
  | d + 1 => adv_gFact (adv_gS (d + 1)) (fun _ => adv_gTest (adv_gF d)) (fun _ => adv_gF d)
theorem adv_gT (d : Nat) : Adv n (gT B n pu d) := adv_gTest (adv_gF d)
end
end
