section
-- a parish's text: what is read, statement by statement
abbrev TS : Type := Int ⊕ (Int × Int)
abbrev QS : Type := Int × Yd × Pr
abbrev PQ : Type := QS ⊕ (Int × Int)
def tb (B : Int → Int) (n : Int) (t : TS) (f : Int → Option (Int × Int)) : TS := match t with
  | .inl a => (match f a with
    | none => .inl (tE B n a)
    | some z => .inr z)
  | .inr z => .inr z
def pWrd (B : Int → Int) (n w a : Int) : Option (Int × Int) := if wrd B n a = w then none else some (1, tS B n a)
def pNum (B : Int → Int) (n l m a : Int) : Option (Int × Int) := if tK B n a = 2 then (if 4 < tE B n a - tS B n a then some (1, tS B n a + 4) else if l ≤ tN B n a ∧ tN B n a ≤ m then none else some (2, tS B n a)) else some (1, tS B n a)
def nmV (B : Int → Int) (n a : Int) : Int := wV B (tS B n a) (tE B n a - tS B n a).toNat
def pNam (B : Int → Int) (n : Int) (th : Int → Bool) (a : Int) : Option (Int × Int) := if tK B n a = 1 ∧ ¬ (0 ≤ wrd B n a ∧ wrd B n a ≤ 24) then (if 6 < tE B n a - tS B n a then some (1, tS B n a + 6) else if th (nmV B n a) = true then some (3, tS B n a) else none) else some (1, tS B n a)
def thB (D : Yd) (v : Int) : Bool := !(sAll (fun k => !decide (D 10 (k : Int) = v)) (sNg D) && sAll (fun k => !decide (D 10 (6 + (k : Int)) = v)) (sNp D))
def cRow (B : Int → Int) (n : Int) (th : Int → Bool) (w1 l1 m1 w2 l2 m2 w3 l3 m3 a : Int) : TS := tb B n (tb B n (tb B n (tb B n (tb B n (tb B n (tb B n (.inl a) (pNam B n th)) (pWrd B n w1)) (pNum B n l1 m1)) (pWrd B n w2)) (pNum B n l2 m2)) (pWrd B n w3)) (pNum B n l3 m3)
def tI (B : Int → Int) (n a : Int) : Nat → Int
  | 0 => a
  | k + 1 => tE B n (tI B n a k)
def sGrv (B : Int → Int) (n : Int) (D : Yd) (a : Int) : Yd := sUp (sUp (sUp (sUp (sUp (sUp D 10 (D 0 0) (nmV B n a)) 1 (D 0 0) (tN B n (tI B n a 2))) 2 (D 0 0) (tN B n (tI B n a 4))) 3 (D 0 0) (tN B n (tI B n a 6))) 4 (D 0 0) (-1)) 0 0 (D 0 0 + 1)
def sPrs (B : Int → Int) (n : Int) (D : Yd) (a : Int) : Yd := sUp (sUp (sUp (sUp (sUp (sUp D 10 (6 + D 0 1) (nmV B n a)) 5 (D 0 1) (tN B n (tI B n a 2))) 6 (D 0 1) (tN B n (tI B n a 4))) 7 (D 0 1) (tN B n (tI B n a 6))) 8 (D 0 1) 1) 0 1 (D 0 1 + 1)
def pGrv (B : Int → Int) (n : Int) (D : Yd) (a : Int) : TS := cRow B n (thB D) 1 1 9 2 0 9 3 1 30 a
def pPrs (B : Int → Int) (n : Int) (D : Yd) (a : Int) : TS := cRow B n (thB D) 5 1 9 6 0 99 7 0 9 a
def liQ (t : TS) (D : Yd) (R : Pr) : PQ := match t with
  | .inl a => .inl (a, D, R)
  | .inr z => .inr z
def liR (t : PS) (w : Int) (D : Yd) (R : Pr) : PQ := match t with
  | .inl q => .inl (q.1, D, fun r => if r = w then q.2 else R r)
  | .inr z => .inr z
def pSt1 (B : Int → Int) (n a : Int) (D : Yd) (R : Pr) : PQ :=
  if wrd B n a = 0 then (if 6 ≤ D 0 0 then .inr (5, tS B n a) else liQ (pGrv B n D (tE B n a)) (sGrv B n D (tE B n a)) R)
  else if wrd B n a = 4 then (if 8 ≤ D 0 1 then .inr (5, tS B n a) else liQ (pPrs B n D (tE B n a)) (sPrs B n D (tE B n a)) R)
  else if 8 ≤ wrd B n a ∧ wrd B n a ≤ 12 then (if (R (wrd B n a)).length = 0 then liR (gR B n (wrd B n a) (decide (wrd B n a = 9)) (tE B n a) []) (wrd B n a) D R else .inr (5, tS B n a))
  else .inr (1, tS B n a)
def pEnd (B : Int → Int) (n : Int) (r : PQ) : PQ := match r with
  | .inl s => if sgn B n s.1 = 59 then .inl (tE B n s.1, s.2) else .inr (1, tS B n s.1)
  | .inr z => .inr z
def pSt (B : Int → Int) (n : Int) (s : QS) : PQ := pEnd B n (pSt1 B n s.1 s.2.1 s.2.2)
def pAll (B : Int → Int) (n : Int) : Nat → Int → QS → PQ
  | 0, i, s => .inl (i, s.2)
  | k + 1, i, s => if tS B n s.1 < n then (match pSt B n s with
    | .inl s' => pAll B n k (i + 1) s'
    | .inr z => .inr z) else .inl (i, s.2)
def pTx (B : Int → Int) (n : Int) : PQ := pAll B n 1601 0 (0, (fun _ _ => 0), (fun _ => []))
def okNm (v : Int) : Prop := (1 ≤ v ∧ v < 387420489) ∧ v % 27 ≠ 0
/-- what holds of all that is read -/
def okD (n : Int) (s : QS) : Prop := (0 ≤ s.1 ∧ s.1 ≤ n) ∧ okY s.2.1 ∧ (s.2.1 0 2 = 0 ∧ s.2.1 0 3 = 0) ∧ (∀ k, 0 ≤ k → k < s.2.1 0 0 → s.2.1 4 k = -1) ∧ (∀ k, 0 ≤ k → k < s.2.1 0 1 → s.2.1 8 k = 1) ∧ (∀ j, (0 ≤ j ∧ j < s.2.1 0 0) ∨ (6 ≤ j ∧ j < 6 + s.2.1 0 1) → okNm (s.2.1 10 j)) ∧ ∀ r, 8 ≤ r → r ≤ 12 → s.2.2 r = [] ∨ (okp r (s.2.2 r) ∧ ∃ u, wtR (s.2.2 r) [] = some [u] ∧ (r = 9 → u = true))
section
variable {B : Int → Int} {n a : Int} {D : Yd} {R : Pr}
theorem tb_l {t : TS} {f : Int → Option (Int × Int)} {b : Int} (h : tb B n t f = .inl b) : ∃ a, t = .inl a ∧ f a = none ∧ b = tE B n a := by
  cases t with
  | inr z => cases h
  | inl a =>
    unfold tb at h
    dsimp only at h
    cases e : f a with
    | none => rw [e] at h; exact ⟨a, rfl, e, (Sum.inl.inj h).symm⟩
    | some z => rw [e] at h; cases h
theorem pWrd_n {w : Int} (h : pWrd B n w a = none) : wrd B n a = w := by
  unfold pWrd at h
  by_cases q : wrd B n a = w
  · exact q
  · rw [if_neg q] at h; cases h
theorem pNum_n {l m : Int} (h : pNum B n l m a = none) : tK B n a = 2 ∧ tE B n a - tS B n a ≤ 4 ∧ l ≤ tN B n a ∧ tN B n a ≤ m := by
  unfold pNum at h
  by_cases q : tK B n a = 2
  · rw [if_pos q] at h
    by_cases p : 4 < tE B n a - tS B n a
    · rw [if_pos p] at h; cases h
    · rw [if_neg p] at h
      by_cases r : l ≤ tN B n a ∧ tN B n a ≤ m
      · exact ⟨q, by omega, r⟩
      · rw [if_neg r] at h; cases h
  · rw [if_neg q] at h; cases h
theorem pNam_n {th : Int → Bool} (h : pNam B n th a = none) : (tK B n a = 1 ∧ ¬ (0 ≤ wrd B n a ∧ wrd B n a ≤ 24)) ∧ tE B n a - tS B n a ≤ 6 ∧ th (nmV B n a) = false := by
  unfold pNam at h
  by_cases q : tK B n a = 1 ∧ ¬ (0 ≤ wrd B n a ∧ wrd B n a ≤ 24)
  · rw [if_pos q] at h
    by_cases p : 6 < tE B n a - tS B n a
    · rw [if_pos p] at h; cases h
    · rw [if_neg p] at h
      by_cases r : th (nmV B n a) = true
      · rw [if_pos r] at h; cases h
      · exact ⟨q, by omega, by simpa using r⟩
  · rw [if_neg q] at h; cases h
theorem cRow_n {th : Int → Bool} {w1 l1 m1 w2 l2 m2 w3 l3 m3 b : Int} (h : cRow B n th w1 l1 m1 w2 l2 m2 w3 l3 m3 a = .inl b) : (pNam B n th a = none ∧ pWrd B n w1 (tI B n a 1) = none ∧ pNum B n l1 m1 (tI B n a 2) = none ∧ pWrd B n w2 (tI B n a 3) = none ∧ pNum B n l2 m2 (tI B n a 4) = none ∧ pWrd B n w3 (tI B n a 5) = none ∧ pNum B n l3 m3 (tI B n a 6) = none) ∧ b = tI B n a 7 := by
  unfold cRow at h
  obtain ⟨a6, h6, g6, rfl⟩ := tb_l h
  obtain ⟨a5, h5, g5, rfl⟩ := tb_l h6
  obtain ⟨a4, h4, g4, rfl⟩ := tb_l h5
  obtain ⟨a3, h3, g3, rfl⟩ := tb_l h4
  obtain ⟨a2, h2, g2, rfl⟩ := tb_l h3
  obtain ⟨a1, h1, g1, rfl⟩ := tb_l h2
  obtain ⟨a0, h0, g0, rfl⟩ := tb_l h1
  have e := Sum.inl.inj h0
  subst e
  exact ⟨⟨g0, g1, g2, g3, g4, g5, g6⟩, rfl⟩
theorem tI_le (h0 : 0 ≤ a) (h1 : a ≤ n) : ∀ k : Nat, a ≤ tI B n a k ∧ tI B n a k ≤ n
  | 0 => ⟨Int.le_refl _, h1⟩
  | k + 1 => by
    have ih := tI_le h0 h1 k
    have := tE_le (B := B) ih.2
    have g := tE_ge B n (tI B n a k)
    have s := (tS_sp B n (tI B n a k)).1
    exact ⟨by show a ≤ tE B n (tI B n a k); omega, this⟩
theorem nmV_ok (h0 : 0 ≤ a) (h1 : a ≤ n) (hk : tK B n a = 1) (h6 : tE B n a - tS B n a ≤ 6) : okNm (nmV B n a) ∧ tSp B n a = nPad (nmV B n a) := by
  have e := tE_1 hk
  have s := tS_sp B n a
  have g := (tE_ge B n a).2 e.1
  have sp := rn_sp (fun k => isL (B k)) n (tS B n a)
  rw [show rn (fun k => isL (B k)) n (tS B n a) = tE B n a from e.2.2.symm] at sp
  unfold nmV tSp tL
  obtain ⟨L, hL⟩ : ∃ L : Nat, tE B n a = tS B n a + L := ⟨(tE B n a - tS B n a).toNat, by omega⟩
  rw [show (tE B n a - tS B n a).toNat = L by omega, show min L 6 = L by omega]
  have lt : ∀ j : Nat, j < L → 97 ≤ B (tS B n a + j) ∧ B (tS B n a + j) ≤ 122 := fun j hj => by
    have := (sp.2.1 (tS B n a + j) (by omega) (by omega)).2
    unfold isL at this
    simpa only [Bool.and_eq_true, decide_eq_true_eq] using this
  have hc : L = 1 ∨ L = 2 ∨ L = 3 ∨ L = 4 ∨ L = 5 ∨ L = 6 := by omega
  generalize tS B n a = t at lt
  have l0 := lt 0 (by omega)
  unfold okNm nPad
  rcases hc with rfl | rfl | rfl | rfl | rfl | rfl
  · simp only [wV, p27] at l0 ⊢
    repeat' split
    all_goals omega
  · have l1 := lt 1 (by omega)
    simp only [wV, p27] at l0 l1 ⊢
    repeat' split
    all_goals omega
  · have l1 := lt 1 (by omega)
    have l2 := lt 2 (by omega)
    simp only [wV, p27] at l0 l1 l2 ⊢
    repeat' split
    all_goals omega
  · have l1 := lt 1 (by omega)
    have l2 := lt 2 (by omega)
    have l3 := lt 3 (by omega)
    simp only [wV, p27] at l0 l1 l2 l3 ⊢
    repeat' split
    all_goals omega
  · have l1 := lt 1 (by omega)
    have l2 := lt 2 (by omega)
    have l3 := lt 3 (by omega)
    have l4 := lt 4 (by omega)
    simp only [wV, p27] at l0 l1 l2 l3 l4 ⊢
    repeat' split
    all_goals omega
  · have l1 := lt 1 (by omega)
    have l2 := lt 2 (by omega)
    have l3 := lt 3 (by omega)
    have l4 := lt 4 (by omega)
    have l5 := lt 5 (by omega)
    have hv : 14348907 ≤ wV B t 6 ∧ wV B t 6 < 387420489 ∧ wV B t 6 % 27 ≠ 0 := by
      simp only [wV] at l0 l1 l2 l3 l4 l5 ⊢
      omega
    rw [show p27 (6 - 6) = 1 from rfl]
    generalize wV B t 6 = v at hv
    rw [if_neg (by omega), if_neg (by omega), if_neg (by omega), if_neg (by omega), if_neg (by omega)]
    omega
theorem nPad_inj {v w : Int} (hv : okNm v) (hw : okNm w) (h : nPad v = nPad w) : v = w := by
  obtain ⟨⟨v1, v2⟩, v3⟩ := hv
  obtain ⟨⟨w1, w2⟩, w3⟩ := hw
  unfold nPad at h
  repeat' split at h
  all_goals omega
theorem thB_iff {v : Int} (h0 : 0 ≤ D 0 0) (h1 : 0 ≤ D 0 1) : thB D v = true ↔ ∃ j, ((0 ≤ j ∧ j < D 0 0) ∨ (6 ≤ j ∧ j < 6 + D 0 1)) ∧ D 10 j = v := by
  unfold thB
  rw [Bool.not_eq_true', Bool.and_eq_false_iff]
  constructor
  · intro h
    by_cases q : ∃ j, ((0 ≤ j ∧ j < D 0 0) ∨ (6 ≤ j ∧ j < 6 + D 0 1)) ∧ D 10 j = v
    · exact q
    · have a1 : sAll (fun k => !decide (D 10 (k : Int) = v)) (sNg D) = true := (sAll_iff _).mpr (fun k hk => by
        have : ¬ D 10 (k : Int) = v := fun z => q ⟨k, Or.inl (by unfold sNg at hk; omega), z⟩
        simp [this])
      have a2 : sAll (fun k => !decide (D 10 (6 + (k : Int)) = v)) (sNp D) = true := (sAll_iff _).mpr (fun k hk => by
        have : ¬ D 10 (6 + (k : Int)) = v := fun z => q ⟨6 + k, Or.inr (by unfold sNp at hk; omega), z⟩
        simp [this])
      rw [a1, a2] at h
      exact absurd h (by decide)
  · rintro ⟨j, hj | hj, e⟩
    · left
      refine sAll_f (k := j.toNat) (by unfold sNg; omega) ?_
      rw [Int.toNat_of_nonneg hj.1, e]
      simp
    · right
      refine sAll_f (k := (j - 6).toNat) (by unfold sNp; omega) ?_
      rw [show (6 : Int) + ((j - 6).toNat : Int) = j by omega, e]
      simp
end
end
