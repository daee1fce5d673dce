section
-- what is read of a parish's text is such
section
variable {B : Int → Int} {n a : Int} {D : Yd} {R : Pr}
theorem sGrv_0 : sGrv B n D a 0 0 = D 0 0 + 1 := by unfold sGrv sUp; simp
theorem sGrv_0k {k : Int} (hk : k ≠ 0) : sGrv B n D a 0 k = D 0 k := by unfold sGrv sUp; simp [hk]
theorem sGrv_c {c k : Int} (hc : c ≠ 0) (hk : k ≠ D 0 0) : sGrv B n D a c k = D c k := by unfold sGrv sUp; simp [hc, hk]
theorem sGrv_o {c k : Int} (hc : c = 5 ∨ c = 6 ∨ c = 7 ∨ c = 8 ∨ c = 9) : sGrv B n D a c k = D c k := by rcases hc with rfl | rfl | rfl | rfl | rfl <;> (unfold sGrv sUp; simp)
theorem sGrv_1 : sGrv B n D a 1 (D 0 0) = tN B n (tI B n a 2) := by unfold sGrv sUp; simp
theorem sGrv_2 : sGrv B n D a 2 (D 0 0) = tN B n (tI B n a 4) := by unfold sGrv sUp; simp
theorem sGrv_3 : sGrv B n D a 3 (D 0 0) = tN B n (tI B n a 6) := by unfold sGrv sUp; simp
theorem sGrv_4 : sGrv B n D a 4 (D 0 0) = -1 := by unfold sGrv sUp; simp
theorem sGrv_n : sGrv B n D a 10 (D 0 0) = nmV B n a := by unfold sGrv sUp; simp
theorem sPrs_0 : sPrs B n D a 0 1 = D 0 1 + 1 := by unfold sPrs sUp; simp
theorem sPrs_0k {k : Int} (hk : k ≠ 1) : sPrs B n D a 0 k = D 0 k := by unfold sPrs sUp; simp [hk]
theorem sPrs_c {c k : Int} (hc : c ≠ 0) (hc2 : c ≠ 10) (hk : k ≠ D 0 1) : sPrs B n D a c k = D c k := by unfold sPrs sUp; simp [hc, hc2, hk]
theorem sPrs_o {c k : Int} (hc : c = 1 ∨ c = 2 ∨ c = 3 ∨ c = 4 ∨ c = 9) : sPrs B n D a c k = D c k := by rcases hc with rfl | rfl | rfl | rfl | rfl <;> (unfold sPrs sUp; simp)
theorem sPrs_1 : sPrs B n D a 5 (D 0 1) = tN B n (tI B n a 2) := by unfold sPrs sUp; simp
theorem sPrs_2 : sPrs B n D a 6 (D 0 1) = tN B n (tI B n a 4) := by unfold sPrs sUp; simp
theorem sPrs_3 : sPrs B n D a 7 (D 0 1) = tN B n (tI B n a 6) := by unfold sPrs sUp; simp
theorem sPrs_4 : sPrs B n D a 8 (D 0 1) = 1 := by unfold sPrs sUp; simp
theorem sPrs_n : sPrs B n D a 10 (6 + D 0 1) = nmV B n a := by unfold sPrs sUp; simp
theorem sPrs_m {k : Int} (hk : k ≠ 6 + D 0 1) : sPrs B n D a 10 k = D 10 k := by unfold sPrs sUp; simp [hk]
theorem okD_grv {a0 b : Int} (hd : okD n (a0, D, R)) (h6 : ¬ 6 ≤ D 0 0) (ha : 0 ≤ a ∧ a ≤ n) (h : pGrv B n D a = .inl b) : okD n (b, sGrv B n D a, R) ∧ a ≤ b := by
  obtain ⟨⟨g0, g1, g2, g3, g4, g5, g6⟩, rfl⟩ := cRow_n h
  have le := tI_le (B := B) ha.1 ha.2 7
  have n2 := pNum_n g2
  have n4 := pNum_n g4
  have n6 := pNum_n g6
  have nm := pNam_n g0
  have vn := (nmV_ok ha.1 ha.2 nm.1.1 nm.2.1).1
  obtain ⟨-, ⟨y0, y1, y2⟩, d3, d4, d5, d6, d7⟩ := hd
  dsimp only at y0 y1 y2 d3 d4 d5 d6 d7
  refine ⟨⟨⟨by show 0 ≤ tI B n a 7; omega, le.2⟩, ⟨?_, fun k k0 k1 => ?_, fun k k0 k1 => ?_⟩, ?_, fun k k0 k1 => ?_, fun k k0 k1 => ?_, fun j hj => ?_, d7⟩, le.1⟩
  · dsimp only
    rw [sGrv_0, sGrv_0k (by decide), sGrv_0k (by decide), sGrv_0k (by decide)]
    omega
  · dsimp only at k1 ⊢
    rw [sGrv_0] at k1
    rw [sGrv_0k (by decide)]
    by_cases e : k = D 0 0
    · subst e
      rw [sGrv_1, sGrv_2, sGrv_3, sGrv_4]
      omega
    · have := y1 k k0 (by omega)
      rw [sGrv_c (by decide) e, sGrv_c (by decide) e, sGrv_c (by decide) e, sGrv_c (by decide) e]
      exact this
  · dsimp only at k1 ⊢
    rw [sGrv_0k (by decide)] at k1
    rw [sGrv_o (by omega), sGrv_o (by omega), sGrv_o (by omega), sGrv_o (by omega)]
    exact y2 k k0 k1
  · dsimp only
    rw [sGrv_0k (by decide), sGrv_0k (by decide)]
    exact d3
  · dsimp only at k1 ⊢
    rw [sGrv_0] at k1
    by_cases e : k = D 0 0
    · subst e
      exact sGrv_4
    · rw [sGrv_c (by decide) e]
      exact d4 k k0 (by omega)
  · dsimp only at k1 ⊢
    rw [sGrv_0k (by decide)] at k1
    rw [sGrv_o (by omega)]
    exact d5 k k0 k1
  · dsimp only at hj ⊢
    rw [sGrv_0, sGrv_0k (by decide)] at hj
    by_cases e : j = D 0 0
    · subst e
      rw [sGrv_n]; exact vn
    · rw [sGrv_c (by decide) e]
      exact d6 j (by omega)
theorem okD_prs {a0 b : Int} (hd : okD n (a0, D, R)) (h6 : ¬ 8 ≤ D 0 1) (ha : 0 ≤ a ∧ a ≤ n) (h : pPrs B n D a = .inl b) : okD n (b, sPrs B n D a, R) ∧ a ≤ b := by
  obtain ⟨⟨g0, g1, g2, g3, g4, g5, g6⟩, rfl⟩ := cRow_n h
  have le := tI_le (B := B) ha.1 ha.2 7
  have n2 := pNum_n g2
  have n4 := pNum_n g4
  have n6 := pNum_n g6
  have nm := pNam_n g0
  have vn := (nmV_ok ha.1 ha.2 nm.1.1 nm.2.1).1
  obtain ⟨-, ⟨y0, y1, y2⟩, d3, d4, d5, d6, d7⟩ := hd
  dsimp only at y0 y1 y2 d3 d4 d5 d6 d7
  refine ⟨⟨⟨by show 0 ≤ tI B n a 7; omega, le.2⟩, ⟨?_, fun k k0 k1 => ?_, fun k k0 k1 => ?_⟩, ?_, fun k k0 k1 => ?_, fun k k0 k1 => ?_, fun j hj => ?_, d7⟩, le.1⟩
  · dsimp only
    rw [sPrs_0, sPrs_0k (by decide), sPrs_0k (by decide), sPrs_0k (by decide)]
    omega
  · dsimp only at k1 ⊢
    rw [sPrs_0k (by decide)] at k1
    rw [sPrs_0, sPrs_o (by omega), sPrs_o (by omega), sPrs_o (by omega), sPrs_o (by omega)]
    have := y1 k k0 k1
    omega
  · dsimp only at k1 ⊢
    rw [sPrs_0] at k1
    by_cases e : k = D 0 1
    · subst e
      rw [sPrs_1, sPrs_2, sPrs_3, sPrs_4]
      omega
    · have := y2 k k0 (by omega)
      rw [sPrs_c (by decide) (by decide) e, sPrs_c (by decide) (by decide) e, sPrs_c (by decide) (by decide) e, sPrs_c (by decide) (by decide) e]
      exact this
  · dsimp only
    rw [sPrs_0k (by decide), sPrs_0k (by decide)]
    exact d3
  · dsimp only at k1 ⊢
    rw [sPrs_0k (by decide)] at k1
    rw [sPrs_o (by omega)]
    exact d4 k k0 k1
  · dsimp only at k1 ⊢
    rw [sPrs_0] at k1
    by_cases e : k = D 0 1
    · subst e
      exact sPrs_4
    · rw [sPrs_c (by decide) (by decide) e]
      exact d5 k k0 (by omega)
  · dsimp only at hj ⊢
    rw [sPrs_0, sPrs_0k (by decide)] at hj
    by_cases e : j = 6 + D 0 1
    · subst e
      rw [sPrs_n]; exact vn
    · rw [sPrs_m e]
      exact d6 j (by omega)
theorem okD_rul {a0 w b : Int} {p : List Int} (hd : okD n (a0, D, R)) (hw : 8 ≤ w ∧ w ≤ 12) (ha : 0 ≤ a ∧ a ≤ n) (h : gR B n w (decide (w = 9)) a [] = .inl (b, p)) : okD n (b, D, fun r => if r = w then p else R r) ∧ a ≤ b := by
  have ad := adv_gR (B := B) (n := n) (pu := w) (decide (w = 9)) a [] ha.1 ha.2
  rw [h] at ad
  have ad1 : a < b := ad.1
  have ad2 : b ≤ n := ad.2.1
  obtain ⟨-, y, d3, d4, d5, d6, d7⟩ := hd
  refine ⟨⟨⟨by show 0 ≤ b; omega, ad2⟩, y, d3, d4, d5, d6, fun r r0 r1 => ?_⟩, by omega⟩
  dsimp only
  by_cases e : r = w
  · subst e
    rw [if_pos rfl]
    rcases ty_gR (B := B) (n := n) (pu := r) (decide (r = 9)) a with ⟨a', p', u, e', o, w1, w2⟩ | ⟨z, e'⟩
    · rw [e' []] at h
      have e2 := Sum.inl.inj h
      rw [List.nil_append, Prod.mk.injEq] at e2
      rw [← e2.2]
      exact Or.inr ⟨o, u, w1, fun z => w2 (decide_eq_true z)⟩
    · rw [e' []] at h; cases h
  · rw [if_neg e]
    exact d7 r r0 r1
theorem pSt1_ok {s' : QS} (hd : okD n (a, D, R)) (h : pSt1 B n a D R = .inl s') : okD n s' ∧ a < s'.1 := by
  have ha : 0 ≤ a ∧ a ≤ n := hd.1
  have te := tE_le (B := B) ha.2
  unfold pSt1 at h
  by_cases w0 : wrd B n a = 0
  · have g := wrd_go (B := B) (n := n) (a := a) (by omega)
    rw [if_pos w0] at h
    by_cases f : 6 ≤ D 0 0
    · rw [if_pos f] at h; cases h
    · rw [if_neg f] at h
      cases e : pGrv B n D (tE B n a) with
      | inr z => rw [e] at h; cases h
      | inl b =>
        rw [e] at h
        have := Sum.inl.inj h
        subst this
        have r := okD_grv hd f ⟨by omega, te⟩ e
        exact ⟨r.1, by show a < b; omega⟩
  rw [if_neg w0] at h
  by_cases w4 : wrd B n a = 4
  · have g := wrd_go (B := B) (n := n) (a := a) (by omega)
    rw [if_pos w4] at h
    by_cases f : 8 ≤ D 0 1
    · rw [if_pos f] at h; cases h
    · rw [if_neg f] at h
      cases e : pPrs B n D (tE B n a) with
      | inr z => rw [e] at h; cases h
      | inl b =>
        rw [e] at h
        have := Sum.inl.inj h
        subst this
        have r := okD_prs hd f ⟨by omega, te⟩ e
        exact ⟨r.1, by show a < b; omega⟩
  rw [if_neg w4] at h
  by_cases w8 : 8 ≤ wrd B n a ∧ wrd B n a ≤ 12
  · have g := wrd_go (B := B) (n := n) (a := a) (by omega)
    rw [if_pos w8] at h
    by_cases f : (R (wrd B n a)).length = 0
    · rw [if_pos f] at h
      cases e : gR B n (wrd B n a) (decide (wrd B n a = 9)) (tE B n a) [] with
      | inr z => rw [e] at h; cases h
      | inl q =>
        obtain ⟨b, p⟩ := q
        rw [e] at h
        have := Sum.inl.inj h
        subst this
        have r := okD_rul hd w8 ⟨by omega, te⟩ e
        exact ⟨r.1, by show a < b; omega⟩
    · rw [if_neg f] at h; cases h
  · rw [if_neg w8] at h; cases h
theorem pSt_ok {s s' : QS} (hd : okD n s) (h : pSt B n s = .inl s') : okD n s' ∧ s.1 < s'.1 := by
  obtain ⟨a, D, R⟩ := s
  unfold pSt at h
  dsimp only at h ⊢
  cases e : pSt1 B n a D R with
  | inr z => rw [e] at h; cases h
  | inl s1 =>
    rw [e] at h
    have r := pSt1_ok hd e
    unfold pEnd at h
    dsimp only at h
    by_cases q : sgn B n s1.1 = 59
    · rw [if_pos q] at h
      have := Sum.inl.inj h
      subst this
      have g := sgn_go (B := B) (n := n) (a := s1.1) (by omega)
      have te := tE_le (B := B) r.1.1.2
      have r0 := r.1.1
      exact ⟨⟨⟨by show 0 ≤ tE B n s1.1; omega, te⟩, r.1.2⟩, by show a < tE B n s1.1; omega⟩
    · rw [if_neg q] at h; cases h
end
end
