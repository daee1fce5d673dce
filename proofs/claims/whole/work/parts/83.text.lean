section
-- texts: runs of bytes, tokens
def rnF (c : Int → Bool) : Nat → Int → Int
  | 0, a => a
  | f + 1, a => if c a = true then rnF c f (a + 1) else a
def rn (c : Int → Bool) (n a : Int) : Int := rnF (fun k => decide (k < n) && c k) (n - a).toNat a
theorem rnF_sp {c : Int → Bool} {n : Int} : ∀ (f : Nat) (a : Int), (n - a).toNat ≤ f → a ≤ rnF (fun k => decide (k < n) && c k) f a ∧ (∀ k, a ≤ k → k < rnF (fun k => decide (k < n) && c k) f a → k < n ∧ c k = true) ∧ ¬ (rnF (fun k => decide (k < n) && c k) f a < n ∧ c (rnF (fun k => decide (k < n) && c k) f a) = true)
  | 0, a, h => by
    unfold rnF
    exact ⟨Int.le_refl _, fun k a b => by omega, fun z => by omega⟩
  | f + 1, a, h => by
    unfold rnF
    by_cases q : (decide (a < n) && c a) = true
    · rw [if_pos q]
      simp only [Bool.and_eq_true, decide_eq_true_eq] at q
      have ih := rnF_sp (c := c) (n := n) f (a + 1) (by omega)
      refine ⟨by omega, fun k h1 h2 => ?_, ih.2.2⟩
      by_cases e : k = a
      · subst e; exact q
      · exact ih.2.1 k (by omega) h2
    · rw [if_neg q]
      simp only [Bool.and_eq_true, decide_eq_true_eq] at q
      exact ⟨Int.le_refl _, fun k a b => by omega, q⟩
theorem rn_sp (c : Int → Bool) (n a : Int) : a ≤ rn c n a ∧ (∀ k, a ≤ k → k < rn c n a → k < n ∧ c k = true) ∧ ¬ (rn c n a < n ∧ c (rn c n a) = true) := rnF_sp _ _ (Nat.le_refl _)
theorem rn_un {c : Int → Bool} {n a e : Int} (h0 : a ≤ e) (h1 : ∀ k, a ≤ k → k < e → k < n ∧ c k = true) (h2 : ¬ (e < n ∧ c e = true)) : rn c n a = e := by
  have s := rn_sp c n a
  rcases Int.lt_trichotomy (rn c n a) e with z | z | z
  · exact absurd (h1 _ s.1 z) s.2.2
  · exact z
  · exact absurd (s.2.1 _ h0 z) h2
theorem rn_le {c : Int → Bool} {n a : Int} (h : a ≤ n) : rn c n a ≤ n := by
  have s := rn_sp c n a
  by_cases z : rn c n a ≤ n
  · exact z
  · have := (s.2.1 (rn c n a - 1) (by omega) (by omega)).1
    omega
def isBl (x : Int) : Bool := decide (x = 10) || decide (x = 32)
def isL (x : Int) : Bool := decide (97 ≤ x) && decide (x ≤ 122)
def isD (x : Int) : Bool := decide (48 ≤ x) && decide (x ≤ 57)
def bt (B : Int → Int) (n k : Int) : Int := if 0 ≤ k ∧ k < n then B k else -1
def tS (B : Int → Int) (n a : Int) : Int := rn (fun k => isBl (B k)) n a
def tLe (B : Int → Int) (n s : Int) : Int := rn (fun k => isL (B k)) n s
def tDe (B : Int → Int) (n s : Int) : Int := rn (fun k => isD (B k)) n s
def tK (B : Int → Int) (n a : Int) : Int := if tS B n a < n then (if isL (B (tS B n a)) = true then (if isD (bt B n (tS B n a - 1)) = true then 4 else 1) else if isD (B (tS B n a)) = true then (if isL (bt B n (tS B n a - 1)) = true then 4 else 2) else 3) else 0
def tE (B : Int → Int) (n a : Int) : Int := if tS B n a < n then (if isL (B (tS B n a)) = true then tLe B n (tS B n a) else if isD (B (tS B n a)) = true then tDe B n (tS B n a) else tS B n a + 1) else tS B n a
def wV (B : Int → Int) (s : Int) : Nat → Int
  | 0 => 0
  | k + 1 => 27 * wV B s k + (B (s + k) - 96)
def dV (B : Int → Int) (s : Int) : Nat → Int
  | 0 => 0
  | k + 1 => 10 * dV B s k + (B (s + k) - 48)
def p27 : Nat → Int
  | 0 => 1
  | k + 1 => p27 k * 27
theorem wV_s (B : Int → Int) (s : Int) (k : Nat) : wV B s (k + 1) = 27 * wV B s k + (B (s + k) - 96) := rfl
theorem dV_s (B : Int → Int) (s : Int) (k : Nat) : dV B s (k + 1) = 10 * dV B s k + (B (s + k) - 48) := rfl
theorem p27_s (k : Nat) : p27 (k + 1) = p27 k * 27 := rfl
def tL (B : Int → Int) (n a : Int) : Nat := (tE B n a - tS B n a).toNat
def tSp (B : Int → Int) (n a : Int) : Int := wV B (tS B n a) (min (tL B n a) 6) * p27 (6 - min (tL B n a) 6)
def wNum (x : Int) : Int := if sLf (fun w => decide (spl.getD w 0 = x)) 31 < 31 then (sLf (fun w => decide (spl.getD w 0 = x)) 31 : Int) else -1
def tW (B : Int → Int) (n a : Int) : Int := if tE B n a - tS B n a ≤ 6 then wNum (tSp B n a) else -1
def tN (B : Int → Int) (n a : Int) : Int := dV B (tS B n a) (min (tL B n a) 4)
theorem wNum_rg (x : Int) : -1 ≤ wNum x ∧ wNum x ≤ 30 := by
  unfold wNum
  split <;> omega
theorem tW_rg (B : Int → Int) (n a : Int) : -1 ≤ tW B n a ∧ tW B n a ≤ 30 := by
  unfold tW
  split
  · exact wNum_rg _
  · omega
theorem sLf_31 {f : Nat → Bool} : ∀ k : Nat, sLf f k ≤ k ∧ ((∀ m, m < sLf f k → f m = false) ∧ (sLf f k < k → f (sLf f k) = true))
  | 0 => ⟨Nat.le_refl _, fun m hm => by unfold sLf at hm; omega, fun h => by unfold sLf at h; omega⟩
  | k + 1 => by
    have ih := sLf_31 (f := f) k
    unfold sLf
    by_cases q : f (sLf f k) = true
    · rw [if_pos q]
      exact ⟨by omega, ih.2.1, fun _ => q⟩
    · rw [if_neg q]
      have hk : sLf f k = k := by
        by_cases z : sLf f k < k
        · exact absurd (ih.2.2 z) q
        · omega
      refine ⟨by omega, fun m hm => ?_, fun h => by omega⟩
      by_cases e : m = sLf f k
      · subst e; simpa using q
      · exact ih.2.1 m (by omega)
theorem wNum_at {x : Int} {w : Nat} (hw : w < 31) (h1 : spl.getD w 0 = x) (h0 : ∀ m, m < w → ¬ spl.getD m 0 = x) : wNum x = w := by
  have e : sLf (fun w => decide (spl.getD w 0 = x)) 31 = w := sLf_un (fun m hm => decide_eq_false (h0 m hm)) (by omega) (Or.inl (decide_eq_true h1))
  unfold wNum
  rw [e, if_pos hw]
theorem wNum_no {x : Int} (h0 : ∀ m, m < 31 → ¬ spl.getD m 0 = x) : wNum x = -1 := by
  have e : sLf (fun w => decide (spl.getD w 0 = x)) 31 = 31 := sLf_un (fun m hm => decide_eq_false (h0 m hm)) (by omega) (Or.inr rfl)
  unfold wNum
  rw [e, if_neg (by omega)]
theorem wV_rg {B : Int → Int} {s : Int} : ∀ k : Nat, (∀ j : Nat, j < k → isL (B (s + j)) = true) → 0 ≤ wV B s k ∧ wV B s k < p27 k
  | 0, _ => ⟨by show (0 : Int) ≤ 0; decide, by show (0 : Int) < 1; decide⟩
  | k + 1, h => by
    have ih := wV_rg (B := B) (s := s) k (fun j hj => h j (by omega))
    have hk := h k (by omega)
    unfold isL at hk
    simp only [Bool.and_eq_true, decide_eq_true_eq] at hk
    rw [wV_s, p27_s]
    omega
theorem dV_rg {B : Int → Int} {s : Int} : ∀ k : Nat, k ≤ 4 → (∀ j : Nat, j < k → isD (B (s + j)) = true) → 0 ≤ dV B s k ∧ dV B s k ≤ 9999
  | 0, _, _ => ⟨by show (0 : Int) ≤ 0; decide, by show (0 : Int) ≤ 9999; decide⟩
  | 1, _, h => by
    have h0 := h 0 (by omega)
    unfold isD at h0
    simp only [Bool.and_eq_true, decide_eq_true_eq] at h0
    simp only [dV]
    omega
  | 2, _, h => by
    have h0 := h 0 (by omega)
    have h1 := h 1 (by omega)
    unfold isD at h0 h1
    simp only [Bool.and_eq_true, decide_eq_true_eq] at h0 h1
    simp only [dV]
    omega
  | 3, _, h => by
    have h0 := h 0 (by omega)
    have h1 := h 1 (by omega)
    have h2 := h 2 (by omega)
    unfold isD at h0 h1 h2
    simp only [Bool.and_eq_true, decide_eq_true_eq] at h0 h1 h2
    simp only [dV]
    omega
  | 4, _, h => by
    have h0 := h 0 (by omega)
    have h1 := h 1 (by omega)
    have h2 := h 2 (by omega)
    have h3 := h 3 (by omega)
    unfold isD at h0 h1 h2 h3
    simp only [Bool.and_eq_true, decide_eq_true_eq] at h0 h1 h2 h3
    simp only [dV]
    omega
theorem p27_bd : ∀ k, k < 7 → 1 ≤ p27 k ∧ p27 k ≤ 387420489 := by decide
theorem tS_sp (B : Int → Int) (n a : Int) : a ≤ tS B n a ∧ (∀ k, a ≤ k → k < tS B n a → k < n ∧ isBl (B k) = true) ∧ ¬ (tS B n a < n ∧ isBl (B (tS B n a)) = true) := rn_sp _ n a
theorem tE_le {B : Int → Int} {n a : Int} (h : a ≤ n) : tE B n a ≤ n := by
  have s1 : tS B n a ≤ n := rn_le h
  unfold tE
  split
  · split
    · exact rn_le s1
    split
    · exact rn_le s1
    · omega
  · exact s1
theorem tE_ge (B : Int → Int) (n a : Int) : tS B n a ≤ tE B n a ∧ (tS B n a < n → tS B n a < tE B n a) := by
  unfold tE
  by_cases z : tS B n a < n
  · rw [if_pos z]
    split
    · rename_i hl
      have := rn_sp (fun k => isL (B k)) n (tS B n a)
      have hne : tLe B n (tS B n a) ≠ tS B n a := fun e => this.2.2 (by
        unfold tLe at e
        rw [e]; exact ⟨z, hl⟩)
      unfold tLe at hne ⊢
      omega
    split
    · rename_i hd
      have := rn_sp (fun k => isD (B k)) n (tS B n a)
      have hne : tDe B n (tS B n a) ≠ tS B n a := fun e => this.2.2 (by
        unfold tDe at e
        rw [e]; exact ⟨z, hd⟩)
      unfold tDe at hne ⊢
      omega
    · omega
  · rw [if_neg z]
    omega
end
