section
-- the reference's reading of one part of a sum
def okv (v : Int) : Prop := (1 ≤ v ∧ v ≤ 4) ∨ (20 ≤ v ∧ v ≤ 24) ∨ v = 60 ∨ v = 61
def shp : List Int → Prop
  | [] => True
  | v :: V => okv v ∧ (isOp v = true → lo60 V) ∧ shp V
def cn : List Int → Int
  | [] => 0
  | v :: V => (if isOp v = true then 0 else 1) + cn V
theorem cn_c (v : Int) (V : List Int) : cn (v :: V) = (if isOp v = true then 0 else 1) + cn V := rfl
theorem cn_rg : ∀ V : List Int, 0 ≤ cn V ∧ cn V ≤ V.length
  | [] => ⟨Int.le_refl _, Int.le_refl _⟩
  | v :: V => by
    have := cn_rg V
    unfold cn
    simp only [List.length_cons]
    split <;> omega
theorem shp_mem : ∀ {V : List Int}, shp V → ∀ v ∈ V, okv v
  | [], _, v, hv => by cases hv
  | x :: V, h, v, hv => by
    rcases List.mem_cons.mp hv with e | e
    · subst e; exact h.1
    · exact shp_mem h.2.2 v e
theorem okv_B {v : Int} (h : okv v) (hb : isB v = false) : okc v := by
  unfold isB at hb
  simp only [Bool.and_eq_false_iff, decide_eq_false_iff_not] at hb
  unfold okv at h
  unfold okc
  omega
theorem okv_60 {v : Int} (h : okv v) (hb : 60 ≤ v) : okc v := by
  unfold okv at h
  unfold okc
  omega
theorem eP_sp : ∀ {V c : List Int} {o : Int}, shp V → shp (eP V c o).2.1 ∧ lo60 (eP V c o).2.1 ∧ (eP V c o).2.2 - cn (eP V c o).2.1 = o - cn V ∧ ((eP V c o).1.length : Int) + (eP V c o).2.1.length = c.length + V.length
  | [], c, o, _ => ⟨trivial, trivial, by show o - cn [] = o - cn []; rfl, rfl⟩
  | v :: V, c, o, h => by
    by_cases q : 60 ≤ v
    · rw [eP_hi q]
      have ih := eP_sp (V := V) (c := c ++ [dc v]) (o := o - 1) h.2.2
      refine ⟨ih.1, ih.2.1, ?_, ?_⟩
      · rw [ih.2.2.1]
        rw [cn_c, if_neg (by unfold isOp; simp; omega)]
        omega
      · rw [ih.2.2.2, List.length_append]
        simp; omega
    · rw [eP_lo q]
      exact ⟨h, q, rfl, rfl⟩
/-- the reference stands where the machine of sums stands -/
def qI (h : Hp) (B : Int → Int) (n o0 : Int) (W0 : List Int) (a : Int) (c V : List Int) (o : Int) : Prop := refS h B n a ∧ cdM h c ∧ stM h (V ++ W0) ∧ h 1000 94 = o ∧ h 1000 95 = W0.length ∧ (c.length : Int) + V.length + W0.length ≤ a ∧ shp V ∧ o = o0 + cn V ∧ -1600 ≤ o0 ∧ o ≤ 6
def fltQ (h : Hp) (z : Int × Int) : Prop := fltM h z.1 z.2 ∧ 0 ≤ h 1000 91 ∧ h 1000 91 ≤ 1601
section
variable {h h0 h' : Hp} {B : Int → Int} {n a o o0 pu : Int} {c V W W0 : List Int} {K : Int → Hp → Prop} {R R' : PS} {s s' : MS} {k : Nat}
theorem runs_go (h : runs B n pu k s R) (e : mst B n pu s = .inl s') : ∃ k', k = k' + 1 ∧ runs B n pu k' s' R := by
  cases k with
  | zero => exact absurd h (by unfold runs; exact id)
  | succ k =>
    unfold runs at h
    rw [e] at h
    exact ⟨k, rfl, h⟩
theorem runs_end (h : runs B n pu k s R) (e : mst B n pu s = .inr R') : R = R' ∧ 0 < k := by
  cases k with
  | zero => exact absurd h (by unfold runs; exact id)
  | succ k =>
    unfold runs at h
    rw [e] at h
    exact ⟨h.symm, by omega⟩
theorem qI_at (hq : qI h B n o0 W0 a c V o) (hr : refS h' B n a) (hf : ∀ i k, (i = 1070 ∨ i = 1071 ∨ (i = 1000 ∧ (k = 91 ∨ k = 93 ∨ k = 94 ∨ k = 95))) → h' i k = h i k) : qI h' B n o0 W0 a c V o := by
  obtain ⟨q1, q2, q3, q4, q5, q6⟩ := hq
  exact ⟨hr, cdM_fr q2 (fun i k hi => hf i k (by omega)), stM_fr q3 (fun i k hi => hf i k (by omega)), by rw [hf _ _ (by decide)]; exact q4, by rw [hf _ _ (by decide)]; exact q5, q6⟩
theorem qI_2 (hq : qI h B n o0 W0 a c V o) (hr : refS h' B n a) (hf : ∀ i k, ¬ (i = 1000 ∧ k = 2) → h' i k = h i k) : qI h' B n o0 W0 a c V o := qI_at hq hr (fun i k hi => hf i k (by omega))
theorem qI_flt {z : Int × Int} (hq : qI h B n o0 W0 a c V o) (ha : a ≤ n) (hn : n ≤ 1600) (hz : fltM h' z.1 z.2) (e : h' 1000 91 = h 1000 91) : fltQ h' z := by
  have := hq.2.2.2.2.2.1
  have e2 := hq.2.1.1
  exact ⟨hz, by rw [e, e2]; omega, by rw [e, e2]; omega⟩
theorem qw_inv {w : Int} (h : 0 ≤ qw w) : w = wnM (1060 + qw w) ∧ (qw w < 8 → -1 - w = dc (40 + qw w)) := by
  unfold qw at h ⊢
  repeat' split
  all_goals first
    | (rename_i e; subst e; exact ⟨by decide, fun _ => by decide⟩)
    | (rename_i e; subst e; exact ⟨by decide, fun z => absurd z (by decide)⟩)
    | (exfalso; revert h; simp [*])
theorem gkn_iff {w : Int} : gKn pu w = true ↔ (0 ≤ qw w ∧ qw w < 8 ∧ alw pu (qw w) = true) := by
  unfold gKn alw
  unfold qw
  simp only [Bool.or_eq_true, Bool.and_eq_true, decide_eq_true_eq]
  by_cases a1 : w = 6
  · subst a1; simp
  rw [if_neg a1]
  by_cases a2 : w = 5
  · subst a2; simp
  rw [if_neg a2]
  by_cases a3 : w = 7
  · subst a3; simp
  rw [if_neg a3]
  by_cases a4 : w = 13
  · subst a4; simp
  rw [if_neg a4]
  by_cases a5 : w = 14
  · subst a5; simp
  rw [if_neg a5]
  by_cases a6 : w = 15
  · subst a6; simp
  rw [if_neg a6]
  by_cases a7 : w = 16
  · subst a7; simp
  rw [if_neg a7]
  by_cases a8 : w = 17
  · subst a8; simp
  rw [if_neg a8]
  by_cases a9 : w = 18
  · subst a9; simp
  rw [if_neg a9]
  by_cases a10 : w = 3
  · subst a10; simp
  rw [if_neg a10]
  simp [a1, a2, a3, a4, a5, a6, a7, a8]
theorem op_iff {w : Int} : (8 ≤ qw w ∧ qw w < 10 ∧ alw pu (qw w) = true) ↔ ((w = 18 ∨ w = 3) ∧ pu = 13) := by
  unfold alw
  simp only [Bool.or_eq_true, Bool.and_eq_true, decide_eq_true_eq]
  have r := qw_rg w
  have q8 : qw w = 8 ↔ w = 18 := by
    constructor
    · intro e
      have := (qw_inv (w := w) (by omega)).1
      rw [e] at this
      exact this
    · intro e; subst e; rfl
  have q9 : qw w = 9 ↔ w = 3 := by
    constructor
    · intro e
      have := (qw_inv (w := w) (by omega)).1
      rw [e] at this
      exact this
    · intro e; subst e; rfl
  omega
def nop (B : Int → Int) (n pu a : Int) : Prop := ¬ sgn B n a = 40 ∧ ¬ (wrd B n a = 23 ∨ wrd B n a = 24) ∧ ¬ ((wrd B n a = 18 ∨ wrd B n a = 3) ∧ pu = 13)
/-- opening one: what waits, how many are opened -/
theorem qI_open {v : Int} {a' : Int} (hq : qI h B n o0 W0 a c V o) (ho : ¬ o = 6) (hv : okv v) (hv2 : isOp v = false) (hr : refS h' B n a') (ha : a < a') (hs : stM h' (v :: (V ++ W0))) (h94 : h' 1000 94 = o + 1) (hf : ∀ i k, (i = 1070 ∨ (i = 1000 ∧ (k = 91 ∨ k = 95))) → h' i k = h i k) : qI h' B n o0 W0 a' c (v :: V) (o + 1) := by
  obtain ⟨q1, q2, q3, q4, q5, q6, q7, q8, q9, q10⟩ := hq
  refine ⟨hr, cdM_fr q2 (fun i k hi => hf i k (by omega)), hs, h94, by rw [hf _ _ (by decide)]; exact q5, ?_, ⟨hv, (fun z => (by rw [hv2] at z; cases z)), q7⟩, ?_, q9, by omega⟩
  · simp only [List.length_cons]; omega
  · rw [cn_c, if_neg (by rw [hv2]; decide)]
    omega
end
end
