section
-- what holds of a told state is kept by every call
section
variable {q h h1 h2 : Hp} {A A' : Yd} {P : Pr} {U : List Yd} {X : Yd} {n M : Int} {K : Int → Hp → Prop}
theorem okX_mono {n' : Int} (hx : okX n A P U X) (h : n ≤ n') : okX n' A P U X := by
  obtain ⟨a, b, c, d, e, g, i, j, k⟩ := hx
  exact ⟨a, b, c, d, e, fun j a b => ⟨(g j a b).1, by have := (g j a b).2; omega⟩, i, j, k⟩
theorem okX_rf {j : Int} (hx : okX n A P U X) : okX (n + 1) A P U (sRf X j) := by
  obtain ⟨a, b, c, d, e, g, i, l, k⟩ := hx
  refine ⟨a, b, c, ?_, ?_, fun j' a b => ?_, ?_, ?_, ?_⟩
  · unfold sRf; simp (disch := decide) only [sUp_row, sUp_c, sUp_k, sUp_eq]; exact d
  · unfold sRf; simp (disch := decide) only [sUp_row, sUp_c, sUp_k, sUp_eq]; exact e
  · have gg := g j' a b
    unfold sRf
    by_cases ej : j' = j
    · subst ej; rw [sUp_eq]; omega
    · rw [sUp_k ej]; omega
  · unfold sRf; simp (disch := decide) only [sUp_row, sUp_c, sUp_k, sUp_eq]; exact i
  · unfold sRf; simp (disch := decide) only [sUp_row, sUp_c, sUp_k, sUp_eq]; exact l
  · unfold sRf; simp (disch := decide) only [sUp_row, sUp_c, sUp_k, sUp_eq]; exact k
theorem okX_end {v : Int} (hv : 0 ≤ v ∧ v ≤ X 0 1) (hx : okX n A P U X) : okX n A P U (sUp X 0 1 v) := by
  obtain ⟨a, b, c, d, e, g, i, l, k⟩ := hx
  refine ⟨a, b, c, ?_, ?_, ?_, ?_, ?_, ?_⟩
  · simp (disch := decide) only [sUp_row, sUp_c, sUp_k, sUp_eq]; exact d
  · simp (disch := decide) only [sUp_row, sUp_c, sUp_k, sUp_eq]; exact ⟨by omega, fun j a b => e.2 j a (by omega)⟩
  · simp (disch := decide) only [sUp_row, sUp_c, sUp_k, sUp_eq]; exact g
  · simp (disch := decide) only [sUp_row, sUp_c, sUp_k, sUp_eq]; exact i
  · simp (disch := decide) only [sUp_row, sUp_c, sUp_k, sUp_eq]; exact l
  · simp (disch := decide) only [sUp_row, sUp_c, sUp_k, sUp_eq]; exact k
theorem okX_seed {v : Int} (hv : 0 ≤ v ∧ v ≤ 2147483647) (hx : okX n A P U X) : okX n A P U (sUp X 0 2 v) := by
  obtain ⟨a, b, c, d, e, g, i, l, k⟩ := hx
  refine ⟨a, b, c, ?_, ?_, ?_, ?_, ?_, ?_⟩
  · simp (disch := decide) only [sUp_row, sUp_c, sUp_k, sUp_eq]; exact d
  · simp (disch := decide) only [sUp_row, sUp_c, sUp_k, sUp_eq]; exact e
  · simp (disch := decide) only [sUp_row, sUp_c, sUp_k, sUp_eq]; exact g
  · simp (disch := decide) only [sUp_row, sUp_c, sUp_k, sUp_eq]; exact hv
  · simp (disch := decide) only [sUp_row, sUp_c, sUp_k, sUp_eq]; exact l
  · simp (disch := decide) only [sUp_row, sUp_c, sUp_k, sUp_eq]; exact k
theorem okX_feed {a b c d e : Int} (hv : ¬ 1600 < X 0 1 + 20) (hx : okX n A P U X) : okX n A P U (sFd X a b c d e) := by
  obtain ⟨a1, b1, c1, d1, e1, g1, i1, l1, k1⟩ := hx
  have r0 : ∀ k, k ≠ 1 → sFd X a b c d e 0 k = X 0 k := fun k hk => by unfold sFd; rw [if_neg (fun z => hk z.2), if_neg (by omega)]
  have rc : ∀ c' k, c' ≠ 0 → c' ≠ 2 → sFd X a b c d e c' k = X c' k := fun c' k h0 h2 => by unfold sFd; rw [if_neg (fun z => h0 z.1), if_neg (fun z => h2 z.1)]
  have r1 : sFd X a b c d e 0 1 = X 0 1 + 20 := by unfold sFd; rw [if_pos ⟨rfl, rfl⟩]
  refine ⟨a1, b1, c1, ?_, ⟨by rw [r1]; omega, fun j j0 j1 => ?_⟩, fun j j0 j1 => by rw [rc _ _ (by decide) (by decide)]; exact g1 j j0 j1, by rw [r0 _ (by decide)]; exact i1, by rw [r0 _ (by decide)]; exact l1, fun j hj => by rw [rc _ _ (by decide) (by decide)]; exact k1 j hj⟩
  · rw [r0 _ (by decide)]
    refine ⟨d1.1, fun k k0 k1 => ?_⟩
    rw [rc _ _ (by decide) (by decide), rc _ _ (by decide) (by decide), rc _ _ (by decide) (by decide)]
    exact d1.2 k k0 k1
  · rw [r1] at j1
    rw [sFd_2]
    split
    · exact fByte_rg
    · exact e1.2 j j0 (by omega)
theorem okX_im (hx : okX n A P U X) : okX n A P U (sIm A X) := by
  have h6 := hx.1.1.1
  obtain ⟨a1, b1, c1, d1, e1, g1, i1, l1, k1⟩ := hx
  refine ⟨a1, b1, c1, d1, e1, g1, i1, ?_, k1⟩
  show 0 ≤ imS A + 1 ∧ imS A + 1 ≤ 45
  unfold imS
  omega
theorem okX_see (hx : okX n A P U X) (hs : sSeeB A X = true) : okX n A P U (sSee X) := by
  obtain ⟨a1, b1, c1, d1, e1, g1, i1, l1, k1⟩ := hx
  unfold sSeeB see0 at hs
  simp only [Bool.and_eq_true, decide_eq_true_eq] at hs
  obtain ⟨⟨⟨s1, s2⟩, s3⟩, s4⟩ := hs
  refine ⟨a1, b1, c1, ⟨?_, fun k k0 k1 => ?_⟩, ⟨⟨Int.le_refl 0, show (0 : Int) ≤ 1600 by decide⟩, fun j a b => by have b : j < 0 := b; omega⟩, g1, i1, l1, k1⟩
  · show 0 ≤ X 0 1 / 3 ∧ X 0 1 / 3 ≤ 16
    omega
  · have k1 : k < X 0 1 / 3 := k1
    have s := (sAll_iff _).mp s4 k.toNat (by omega)
    unfold seeF at s
    rw [Int.toNat_of_nonneg k0] at s
    simp only [Bool.and_eq_true, decide_eq_true_eq] at s
    have b0 := e1.2 (3 * k) (by omega) (by omega)
    have b2 := e1.2 (3 * k + 2) (by omega) (by omega)
    show (0 ≤ X 2 (3 * k) ∧ X 2 (3 * k) ≤ 30) ∧ (0 ≤ X 2 (3 * k + 1) ∧ X 2 (3 * k + 1) < A 0 0) ∧ 0 ≤ X 2 (3 * k + 2) ∧ X 2 (3 * k + 2) ≤ 1
    omega
theorem getD_mem {U : List Yd} {j : Nat} {d : Yd} (hj : j < U.length) : U.getD j d ∈ U := by
  rw [List.getD_eq_getElem?_getD, List.getElem?_eq_getElem hj, Option.getD_some]
  exact List.getElem_mem hj
theorem okU_all (hU : ∀ j : Nat, j < U.length → okU A (U.getD j (fun _ _ => 0))) : ∀ V ∈ U, okU A V := fun V hV => by
  obtain ⟨i, hi, e⟩ := List.getElem_of_mem hV
  have := hU i hi
  rw [List.getD_eq_getElem?_getD, List.getElem?_eq_getElem hi, Option.getD_some, e] at this
  exact this
theorem okU_of (hU : ∀ V ∈ U, okU A V) : ∀ j : Nat, j < U.length → okU A (U.getD j (fun _ _ => 0)) := fun j hj => hU _ (getD_mem hj)
/-- the same parish -/
def samP (A A' : Yd) : Prop := A' 0 0 = A 0 0 ∧ A' 0 1 = A 0 1 ∧ (∀ k, 0 ≤ k → k < A 0 0 → A' 1 k = A 1 k) ∧ ∀ k, 0 ≤ k → k < A 0 1 → A' 5 k = A 5 k
theorem okU_same {V : Yd} (hs : samP A A') (h : okU A V) : okU A' V := by
  obtain ⟨s1, s2, s3, s4⟩ := hs
  obtain ⟨a, b, c, d, e, f, g⟩ := h
  exact ⟨a, b, c, by rw [s1]; exact d, by rw [s2]; exact e, fun k k0 k1 => by rw [s1] at k1; rw [s3 k k0 k1]; exact f k k0 k1, fun k k0 k1 => by rw [s2] at k1; rw [s4 k k0 k1]; exact g k k0 k1⟩
theorem okX_yard {U' : List Yd} (hx : okX n A P U X) (hs : samP A A') (ho : okY A' ∧ okK A' ∧ A' 0 2 ≤ 999) (hU : ∀ V ∈ U', okU A V) : okX n A' P U' X := by
  obtain ⟨a1, b1, c1, d1, e1, g1, i1, l1, k1⟩ := hx
  refine ⟨ho, b1, okU_of (fun V hV => okU_same hs (hU V hV)), ?_, e1, g1, i1, l1, fun j hj => k1 j (by rw [hs.1, hs.2.1] at hj; exact hj)⟩
  unfold okS
  rw [hs.1]
  exact d1
theorem okU_kp (hx : okX n A P U X) : ∀ V ∈ sKp U A, okU A V := by
  intro V hV
  unfold sKp at hV
  rcases List.mem_append.mp hV with z | z
  · refine okU_all hx.2.2.1 V ?_
    split at z
    · exact List.mem_of_mem_drop z
    · exact z
  · have e : V = A := by simpa using z
    subst e
    exact ⟨hx.1.1, hx.1.2.1, hx.1.2.2, rfl, rfl, fun _ _ _ => rfl, fun _ _ _ => rfl⟩
theorem okX_dig {g : Int} (hx : okX n A P U X) (hd : digOK A g) : okX n (sUp A 2 g (A 2 g + 1)) P (sKp U A) X := by
  have ho := hx.1.1
  have hg := ho.2.1 g hd.1.1 hd.1.2
  have h2 := hd.2.2
  refine okX_yard hx ⟨sUp_c (by decide), sUp_c (by decide), fun k _ _ => sUp_c (by decide), fun k _ _ => sUp_c (by decide)⟩ ⟨okY_up2 ho (by omega), okK_same hx.1.2.1 (fun c k hc => sUp_c (by omega)), ?_⟩ (okU_kp hx)
  rw [sUp_c (by decide)]; exact hx.1.2.2
theorem okX_talk {p w : Int} (hx : okX n A P U X) (hd : talkOK A p w) : okX n (sUp A 7 p w) P (sKp U A) X := by
  have ho := hx.1.1
  refine okX_yard hx ⟨sUp_c (by decide), sUp_c (by decide), fun k _ _ => sUp_c (by decide), fun k _ _ => sUp_c (by decide)⟩ ⟨okY_up7 ho hd.2.1, okK_same hx.1.2.1 (fun c k hc => sUp_c (by omega)), ?_⟩ (okU_kp hx)
  rw [sUp_c (by decide)]; exact hx.1.2.2
theorem sBury_k {p g w : Int} : (sBury A p g w 0 0 = A 0 0 ∧ sBury A p g w 0 1 = A 0 1 ∧ sBury A p g w 0 2 = A 0 2) ∧ (∀ k, sBury A p g w 1 k = A 1 k) ∧ ∀ k, sBury A p g w 5 k = A 5 k := by
  refine ⟨⟨?_, ?_, ?_⟩, fun k => ?_, fun k => ?_⟩ <;> (unfold sBury; simp)
theorem okX_fill {g p : Int} (hx : okX n A P U X) (hd : fillOK A g p) : okX n (sBury A p g 3) P (sKp U A) X := by
  have ho := hx.1.1
  have b := sBury_k (A := A) (p := p) (g := g) (w := 3)
  refine okX_yard hx ⟨b.1.1, b.1.2.1, fun k _ _ => b.2.1 k, fun k _ _ => b.2.2 k⟩ ⟨okY_bury ho hd.2.1.1.1 hd.2.1.1.2, okK_bury ho hx.1.2.1 hd.2.1.1.1 hd.2.1.1.2 hd.2.1.2, ?_⟩ (okU_kp hx)
  rw [b.1.2.2]; exact hx.1.2.2
theorem okX_months {m : Int} (hx : okX n A P U X) (hd : monthsOK A m) : okX n (sIt P A m.toNat) P (sKp U A) X := by
  have ho := hx.1.1
  have h6 := ho.1
  have z := sIt_0 (P := P) (A := A) m.toNat
  have hm := hd.2
  have hm1 := hd.1
  refine okX_yard hx ⟨z.1, z.2.1, fun k _ _ => (sIt_c _).1, fun k _ _ => (sIt_c _).2.1⟩ ⟨okY_it ho _ (by omega), okK_it ho hx.1.2.1 _ (by omega), ?_⟩ (okU_kp hx)
  rw [z.2.2]; omega
theorem okX_chance {m : Int} (hx : okX n A P U X) (hd : monthsOK A m) : okX n (sChM P (A, X 0 2, 0) m.toNat).1 P (sKp U A) (sUp X 0 2 (sChM P (A, X 0 2, 0) m.toNat).2.1) := by
  have ho := hx.1.1
  have h6 := ho.1
  have hl := hx.2.2.2.2.2.2.1
  have hm := hd.2
  have hm1 := hd.1
  have c := chI_M (P := P) (A := A) (s := (A, X 0 2, 0)) ho rfl ⟨ho, hx.1.2.1, ⟨rfl, rfl, rfl⟩, fun _ => ⟨rfl, rfl⟩, hl, Int.le_refl _, Int.le_refl _⟩ m.toNat (by omega)
  obtain ⟨c1, c2, ⟨c3, c4, c5⟩, c6, c7, c8⟩ := c
  refine okX_seed c7 (okX_yard hx ⟨c3, c4, fun k _ _ => (c6 k).1, fun k _ _ => (c6 k).2⟩ ⟨c1, c2, ?_⟩ (okU_kp hx))
  rw [c5]; omega
theorem okX_undo (hx : okX n A P U X) (hU : U ≠ []) : okX n (U.getD (U.length - 1) (fun _ _ => 0)) P U.dropLast X := by
  have hl : 0 < U.length := List.length_pos_iff.mpr hU
  have o := hx.2.2.1 (U.length - 1) (by omega)
  obtain ⟨a, b, c, d, e, f, g⟩ := o
  exact okX_yard hx ⟨d, e, f, g⟩ ⟨a, b, c⟩ (fun V hV => okU_all hx.2.2.1 V (List.dropLast_subset U hV))
theorem okX_on (hx : okX n A P U X) (hb : onB A X = true) : okX n (onA A X) P [] (sUp X 0 1 0) := by
  have k := on_ok hx.1.1 hx.2.2.2.2.1.2 hb
  exact okX_yard (okX_tape0 hx) ⟨onA_0.1, onA_0.2.1, fun _ _ _ => onA_c.1, fun _ _ _ => onA_c.2.2.2.2.1⟩ k (fun V hV => by cases hV)
theorem fuP_okQ {D : Yd} {R : Pr} {a nn : Int} (hd : okD nn (a, D, R)) : okQ (fuP R) := by
  have d7 := hd.2.2.2.2.2.2
  dsimp only at d7
  have dd : ∀ w, 0 ≤ w → w ≤ 4 → (∃ u, wtR (dflt w) [] = some [u] ∧ (w = 1 → u = true)) ∧ -15 ∉ dflt w ∧ -16 ∉ dflt w ∧ -18 ∉ dflt w := by
    intro w w0 w1
    have hw : w = 0 ∨ w = 1 ∨ w = 2 ∨ w = 3 ∨ w = 4 := by omega
    rcases hw with rfl | rfl | rfl | rfl | rfl
    · exact ⟨⟨false, by decide, by decide⟩, by decide, by decide, by decide⟩
    · exact ⟨⟨true, by decide, fun _ => rfl⟩, by decide, by decide, by decide⟩
    · exact ⟨⟨false, by decide, by decide⟩, by decide, by decide, by decide⟩
    · exact ⟨⟨false, by decide, by decide⟩, by decide, by decide, by decide⟩
    · exact ⟨⟨false, by decide, by decide⟩, by decide, by decide, by decide⟩
  refine ⟨fun r r0 r1 => ?_, fun r r0 r1 => ?_⟩
  · unfold fuP
    by_cases e : R r = []
    · rw [if_pos e]
      obtain ⟨u, h1, h2⟩ := (dd (r - 8) (by omega) (by omega)).1
      exact ⟨u, h1, fun z => h2 (by omega)⟩
    · rw [if_neg e]
      rcases d7 r r0 r1 with z | ⟨-, u, h1, h2⟩
      · exact absurd z e
      · exact ⟨u, h1, h2⟩
  · unfold fuP
    by_cases e : R r = []
    · rw [if_pos e]
      have d := dd (r - 8) (by omega) (by omega)
      exact ⟨fun _ => d.2.1, fun _ => d.2.2.1, d.2.2.2⟩
    · rw [if_neg e]
      rcases d7 r r0 r1 with z | ⟨o, -⟩
      · exact absurd z e
      · refine ⟨fun hr m => ?_, fun hr m => ?_, fun m => ?_⟩
        · exact hr ((o _ m).1 rfl)
        · exact hr ((o _ m).2.1 rfl)
        · have := (o _ m).2.2 (Or.inl rfl)
          omega
theorem okX_par {w : QS} (hx : okX n A P U X) (he : pTx (X 2) (X 0 1) = .inl w) : okX n w.2.1 (fuP w.2.2) [] (sPx X w.2.1) := by
  obtain ⟨⟨a0, ok⟩, -, -⟩ := pAll_ok (i := 0) 1601 0 _ (okD_0 hx.2.2.2.2.1.1.1) he
  obtain ⟨c, D, R⟩ := w
  dsimp only at ok ⊢
  have q := fuP_okQ ok
  obtain ⟨-, y, o3, o4, o5, o6, o7⟩ := ok
  dsimp only at y o3 o4 o5 o6 o7
  obtain ⟨a1, b1, c1, d1, e1, g1, i1, l1, k1⟩ := hx
  refine ⟨⟨y, ?_, by omega⟩, q, fun j hj => absurd hj (by simp), ⟨⟨Int.le_refl 0, show (0 : Int) ≤ 16 by decide⟩, fun k k0 k1 => by have k1 : k < 0 := k1; omega⟩, ⟨⟨Int.le_refl 0, show (0 : Int) ≤ 1600 by decide⟩, fun j a b => by have b : j < 0 := b; omega⟩, g1, i1, l1, fun j hj => (o6 j hj).1⟩
  unfold okK
  have := sCnt_le (sLive D) (sNp D)
  have hy := y.1
  unfold sNp at this ⊢
  omega
end
end
