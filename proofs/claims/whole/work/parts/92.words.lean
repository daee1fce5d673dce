section
-- words as numbers and as letters
def WL : List (List Int) := [[103, 114, 97, 118, 101], [108, 111, 110, 103], [100, 101, 101, 112], [100, 117, 101], [112, 101, 114, 115, 111, 110], [116, 97, 108, 108], [97, 103, 101], [119, 105, 108, 108], [100, 105, 101, 115], [99, 111, 109, 101, 115], [116, 97, 107, 101, 115], [104, 101, 97, 114, 116], [104, 97, 114, 109], [109, 111, 110, 116, 104], [97, 115, 107, 101, 100], [116, 97, 107, 101, 110], [110, 117, 109, 98, 101, 114], [97, 108, 105, 118, 101], [102, 105, 116, 115], [111, 114], [97, 110, 100], [110, 111, 116], [97, 108, 108], [109, 105, 110], [109, 97, 120], [102, 105, 114, 115, 116], [108, 97, 115, 116], [111, 102, 116, 101, 110], [116, 111, 116, 97, 108], [109, 111, 115, 116], [108, 101, 97, 115, 116]]
def wnM (a : Int) : Int := if a < 1040 then a - 1003 else ([25, 26, 27, 28, 29, 30, 21, 20, 19, 22, 23, 24, 6, 5, 7, 13, 14, 15, 16, 17, 18, 3] : List Int).getD (a - 1048).toNat 0
theorem wl_ok : ∀ w, w < 31 → 2 ≤ (WL.getD w []).length ∧ (WL.getD w []).length ≤ 6 ∧ ∀ j, j < (WL.getD w []).length → 97 ≤ (WL.getD w []).getD j 0 ∧ (WL.getD w []).getD j 0 ≤ 122 := by decide +kernel
def encL (l : List Int) : Int := (l.getD 0 96 - 96) * 14348907 + (l.getD 1 96 - 96) * 531441 + (l.getD 2 96 - 96) * 19683 + (l.getD 3 96 - 96) * 729 + (l.getD 4 96 - 96) * 27 + (l.getD 5 96 - 96)
theorem spl_enc : ∀ w, w < 31 → spl.getD w 0 = encL (WL.getD w []) := by decide +kernel
theorem spl_ne : ∀ w, w < 31 → ∀ m, m < w → ¬ spl.getD m 0 = spl.getD w 0 := by decide +kernel
theorem wd_1 : ∀ k : Nat, k < 25 → wdM (1003 + (k : Int)) = WL.getD (wnM (1003 + (k : Int))).toNat [] ∧ 0 ≤ wnM (1003 + (k : Int)) ∧ wnM (1003 + (k : Int)) ≤ 30 ∧ og_siz (1003 + (k : Int)) = (wdM (1003 + (k : Int))).length := by decide +kernel
theorem wd_2 : ∀ k : Nat, k < 22 → wdM (1048 + (k : Int)) = WL.getD (wnM (1048 + (k : Int))).toNat [] ∧ 0 ≤ wnM (1048 + (k : Int)) ∧ wnM (1048 + (k : Int)) ≤ 30 ∧ og_siz (1048 + (k : Int)) = (wdM (1048 + (k : Int))).length := by decide +kernel
def idW (w : Int) : Prop := (1003 ≤ w ∧ w ≤ 1027) ∨ (1048 ≤ w ∧ w ≤ 1069)
theorem wd_id {w : Int} (h : idW w) : wdM w = WL.getD (wnM w).toNat [] ∧ 0 ≤ wnM w ∧ wnM w ≤ 30 ∧ og_siz w = (wdM w).length := by
  rcases h with h | h
  · have := wd_1 (w - 1003).toNat (by omega)
    have e : 1003 + ((w - 1003).toNat : Int) = w := by omega
    rw [e] at this
    exact this
  · have := wd_2 (w - 1048).toNat (by omega)
    have e : 1048 + ((w - 1048).toNat : Int) = w := by omega
    rw [e] at this
    exact this
def dgt (B : Int → Int) (s : Int) (L k : Nat) : Int := if k < L then B (s + k) - 96 else 0
section
variable {B : Int → Int} {n a s : Int}
theorem tSp_dg {L : Nat} (hL : L ≤ 6) : wV B s L * p27 (6 - L) = dgt B s L 0 * 14348907 + dgt B s L 1 * 531441 + dgt B s L 2 * 19683 + dgt B s L 3 * 729 + dgt B s L 4 * 27 + dgt B s L 5 := by
  match L, hL with
  | 0, _ | 1, _ | 2, _ | 3, _ | 4, _ | 5, _ | 6, _ => simp [wV, p27, dgt]; try omega
theorem dig6 {a0 a1 a2 a3 a4 a5 b0 b1 b2 b3 b4 b5 : Int} (ha : (0 ≤ a0 ∧ a0 ≤ 26) ∧ (0 ≤ a1 ∧ a1 ≤ 26) ∧ (0 ≤ a2 ∧ a2 ≤ 26) ∧ (0 ≤ a3 ∧ a3 ≤ 26) ∧ (0 ≤ a4 ∧ a4 ≤ 26) ∧ (0 ≤ a5 ∧ a5 ≤ 26)) (hb : (0 ≤ b0 ∧ b0 ≤ 26) ∧ (0 ≤ b1 ∧ b1 ≤ 26) ∧ (0 ≤ b2 ∧ b2 ≤ 26) ∧ (0 ≤ b3 ∧ b3 ≤ 26) ∧ (0 ≤ b4 ∧ b4 ≤ 26) ∧ (0 ≤ b5 ∧ b5 ≤ 26)) (h : a0 * 14348907 + a1 * 531441 + a2 * 19683 + a3 * 729 + a4 * 27 + a5 = b0 * 14348907 + b1 * 531441 + b2 * 19683 + b3 * 729 + b4 * 27 + b5) : a0 = b0 ∧ a1 = b1 ∧ a2 = b2 ∧ a3 = b3 ∧ a4 = b4 ∧ a5 = b5 := by
  have h0 : a0 = b0 := by omega
  subst h0
  have h1 : a1 = b1 := by omega
  subst h1
  have h2 : a2 = b2 := by omega
  subst h2
  have h3 : a3 = b3 := by omega
  subst h3
  have h4 : a4 = b4 := by omega
  subst h4
  exact ⟨rfl, rfl, rfl, rfl, rfl, by omega⟩
theorem enc_dg {l : List Int} (h0 : l.length ≤ 6) (h1 : ∀ j, j < l.length → 97 ≤ l.getD j 0 ∧ l.getD j 0 ≤ 122) (k : Nat) : (0 ≤ l.getD k 96 - 96 ∧ l.getD k 96 - 96 ≤ 26) ∧ (k < l.length → l.getD k 96 = l.getD k 0 ∧ 1 ≤ l.getD k 96 - 96) ∧ (¬ k < l.length → l.getD k 96 - 96 = 0) := by
  by_cases q : k < l.length
  · have e : l.getD k 96 = l.getD k 0 := by
      rw [List.getD_eq_getElem?_getD, List.getD_eq_getElem?_getD, List.getElem?_eq_getElem q]
      rfl
    have r := h1 k q
    rw [e]
    exact ⟨by omega, fun _ => ⟨rfl, by omega⟩, fun z => absurd q z⟩
  · have e : l.getD k 96 = 96 := by
      rw [List.getD_eq_getElem?_getD, List.getElem?_eq_none (by omega)]
      rfl
    rw [e]
    exact ⟨by omega, fun z => absurd z q, fun _ => by omega⟩
theorem spell_iff {L : Nat} {l : List Int} (hL : L ≤ 6) (hB : ∀ j : Nat, j < L → isL (B (s + j)) = true) (h0 : l.length ≤ 6) (h1 : ∀ j, j < l.length → 97 ≤ l.getD j 0 ∧ l.getD j 0 ≤ 122) : wV B s L * p27 (6 - L) = encL l ↔ (L = l.length ∧ ∀ j : Nat, j < l.length → B (s + j) = l.getD j 0) := by
  have dr : ∀ k : Nat, (0 ≤ dgt B s L k ∧ dgt B s L k ≤ 26) ∧ (k < L → 1 ≤ dgt B s L k ∧ dgt B s L k = B (s + k) - 96) ∧ (¬ k < L → dgt B s L k = 0) := by
    intro k
    unfold dgt
    by_cases q : k < L
    · have := hB k q
      unfold isL at this
      simp only [Bool.and_eq_true, decide_eq_true_eq] at this
      rw [if_pos q]
      exact ⟨by omega, fun _ => ⟨by omega, rfl⟩, fun z => absurd q z⟩
    · rw [if_neg q]
      exact ⟨by omega, fun z => absurd z q, fun _ => rfl⟩
  have er := enc_dg h0 h1
  rw [tSp_dg hL]
  unfold encL
  constructor
  · intro h
    have d := dig6 ⟨(dr 0).1, (dr 1).1, (dr 2).1, (dr 3).1, (dr 4).1, (dr 5).1⟩ ⟨(er 0).1, (er 1).1, (er 2).1, (er 3).1, (er 4).1, (er 5).1⟩ h
    have all : ∀ k : Nat, k < 6 → dgt B s L k = l.getD k 96 - 96 := by
      intro k hk
      match k, hk with
      | 0, _ => exact d.1
      | 1, _ => exact d.2.1
      | 2, _ => exact d.2.2.1
      | 3, _ => exact d.2.2.2.1
      | 4, _ => exact d.2.2.2.2.1
      | 5, _ => exact d.2.2.2.2.2
    have eL : L = l.length := by
      rcases Nat.lt_trichotomy L l.length with z | z | z
      · have a1 := all L (by omega)
        have a2 := (dr L).2.2 (by omega)
        have a3 := ((er L).2.1 z).2
        omega
      · exact z
      · have a1 := all l.length (by omega)
        have a2 := ((dr l.length).2.1 z).1
        have a3 := (er l.length).2.2 (by omega)
        omega
    refine ⟨eL, fun j hj => ?_⟩
    have a1 := all j (by omega)
    have a2 := ((dr j).2.1 (by omega)).2
    have a3 := ((er j).2.1 hj).1
    omega
  · rintro ⟨eL, hl⟩
    have all : ∀ k : Nat, k < 6 → dgt B s L k = l.getD k 96 - 96 := by
      intro k hk
      by_cases q : k < L
      · have a2 := ((dr k).2.1 q).2
        have a3 := ((er k).2.1 (by omega)).1
        have a4 := hl k (by omega)
        omega
      · have a2 := (dr k).2.2 q
        have a3 := (er k).2.2 (by omega)
        omega
    rw [all 0 (by omega), all 1 (by omega), all 2 (by omega), all 3 (by omega), all 4 (by omega), all 5 (by omega)]
theorem wNum_iff {x : Int} {w : Nat} (hw : w < 31) : wNum x = w ↔ x = spl.getD w 0 := by
  constructor
  · intro h
    have s := sLf_31 (f := fun w => decide (spl.getD w 0 = x)) 31
    unfold wNum at h
    by_cases q : sLf (fun w => decide (spl.getD w 0 = x)) 31 < 31
    · rw [if_pos q] at h
      have e : sLf (fun w => decide (spl.getD w 0 = x)) 31 = w := by omega
      have := s.2.2 q
      rw [e, decide_eq_true_eq] at this
      exact this.symm
    · rw [if_neg q] at h; omega
  · intro h
    exact wNum_at hw h.symm (fun m hm z => spl_ne w hw m hm (z.trans h))
/-- a word stands here just if its letters do -/
theorem word_iff {w : Nat} (hw : w < 31) (hk : tK B n a = 1) : wrd B n a = w ↔ (tE B n a - tS B n a = (WL.getD w []).length ∧ ∀ j : Nat, j < (WL.getD w []).length → B (tS B n a + j) = (WL.getD w []).getD j 0) := by
  have wo := wl_ok w hw
  have hlt : tS B n a < n := by
    by_cases q : tS B n a < n
    · exact q
    · unfold tK at hk; rw [if_neg q] at hk; omega
  have hl : isL (B (tS B n a)) = true ∧ tE B n a = tLe B n (tS B n a) := by
    unfold tK at hk
    rw [if_pos hlt] at hk
    by_cases q : isL (B (tS B n a)) = true
    · exact ⟨q, by unfold tE; rw [if_pos hlt, if_pos q]⟩
    · rw [if_neg q] at hk
      split at hk
      · split at hk <;> omega
      · omega
  have hrun := (rn_sp (fun k => isL (B k)) n (tS B n a))
  have tg := tE_ge B n a
  have hB : ∀ j : Nat, j < tL B n a → isL (B (tS B n a + j)) = true := by
    intro j hj
    unfold tL at hj
    refine (hrun.2.1 (tS B n a + j) (by omega) ?_).2
    have : rn (fun k => isL (B k)) n (tS B n a) = tE B n a := hl.2.symm
    rw [this]; omega
  have ew : wrd B n a = tW B n a := by unfold wrd; rw [if_pos hk]
  rw [ew]
  unfold tW
  by_cases q : tE B n a - tS B n a ≤ 6
  · rw [if_pos q, wNum_iff hw, spl_enc w hw]
    have hL : tL B n a ≤ 6 := by unfold tL; omega
    have em : min (tL B n a) 6 = tL B n a := by omega
    unfold tSp
    rw [em, spell_iff hL hB wo.2.1 wo.2.2]
    have : tL B n a = (WL.getD w []).length ↔ tE B n a - tS B n a = (WL.getD w []).length := by unfold tL; omega
    rw [this]
  · rw [if_neg q]
    constructor
    · intro h; omega
    · rintro ⟨h, -⟩; omega
end
end
