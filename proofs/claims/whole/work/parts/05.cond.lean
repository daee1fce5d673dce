-- arrays, conditions
theorem og_ki_small {k e n : Nat} (h : og_ki k = .inr (e, n)) : n ≤ 5000 := by
  unfold og_ki at h
  split at h <;> cases h <;> decide
theorem og_clamp {y : Int} (h0 : 0 ≤ y) (h1 : y ≤ 2147483647) : (Int32.ofInt y).toNatClampNeg = y.toNat := by
  show (Int32.ofInt y).toInt.toNat = y.toNat
  rw [og_ti (by omega) h1]
theorem og_vpin {y : Int} {N : Nat} (h0 : 0 ≤ y) (h1 : y ≤ 2147483647) (h2 : y < (N : Int)) : vp_in (Int32.ofInt y) N := vp_in_iff.mpr (by rw [og_ti (by omega) h1]; exact ⟨h0, h2⟩)
theorem og_arrat {w : og_Wd} {h : Hp} {i : Int} {et N : Nat} (hi : i ∈ w.1) (hki : og_ki (og_kd i) = .inr (et, N)) : ∃ q0 : Nat, w.1[q0]? = some i ∧ (og_wW w h)[q0]? = some (w.2.2.1 i, .inl (w.2.2.2 et, og_arr w h i et N)) := by
  obtain ⟨q0, h1, h2⟩ := og_at (w := w) (h := h) hi
  rw [og_ce_arr rfl hki] at h2
  exact ⟨q0, h1, h2⟩
section
variable {own : String} {cc : ByteArray} {nL dep n : Nat} {lt : List (Nat × Nat)} {a b t : Nat} {f g : og_Ex}
theorem og_iald {kn N m0 : Nat} (hf : og_OKe own cc nL dep n lt a m0 (kn + 4) f) (hki : og_ki kn = .inr (0, N)) (hg : og_OKe own cc nL dep (n + 1) lt m0 b 0 g) (hd : decode cc b = .ok (.iaload, 1)) : og_OKe own cc nL dep n lt a (b + 1) 0 (og_ald N f g) := by
  intro p l e R s m args below meth c Q w A H0 C env st h K hn hh hk
  refine hf p l e R s m args below meth c Q w A H0 C env st h _ hn hh (fun x h1 hx h2 => ?_)
  refine hg p l e R s m args below meth c Q w A H0 C env _ h1 _ (og_wd1 hn (by omega)) h2 (fun y h3 hy h4 => ?_)
  intro H locs ls hw hP hS hl
  obtain ⟨q0, g0, g1⟩ := og_arrat (w := w) (h := h3) hx.1 (by rw [hx.2]; exact hki)
  refine va_iald C.1 C.2.1 C.2.2.2.2.2.1 hP q0 0 g1 rfl (og_vpin h4.1 hy.2 h4.2.1) hd ?_
  rw [og_clamp h4.1 hy.2]
  have e1 : ((y.toNat : Nat) : Int) = y := by have := h4.1; omega
  have r := hw x hx.1 y.toNat
  rw [og_sty_arr hx.2 hki, e1] at r
  rw [e1]
  exact hk _ _ r h4.2.2 H locs ls hw hP hS hl
theorem og_giald {m0 : Nat} (hf : og_OKe own cc nL dep n lt a m0 2 f) (hg : og_OKe own cc nL dep (n + 1) lt m0 b 0 g) (hd : decode cc b = .ok (.iaload, 1)) : og_OKe own cc nL dep n lt a (b + 1) 0 (og_gld f g) := by
  intro p l e R s m args below meth c Q w A H0 C env st h K hn hh hk
  refine hf p l e R s m args below meth c Q w A H0 C env st h _ hn hh (fun x h1 hx h2 => ?_)
  refine hg p l e R s m args below meth c Q w A H0 C env _ h1 _ (og_wd1 hn (by omega)) h2 (fun y h3 hy h4 => ?_)
  intro H locs ls hw hP hS hl
  obtain ⟨hx1, N, hki⟩ := hx
  have hsz : og_siz x = N := by unfold og_siz; rw [hki]
  rw [hsz] at h4
  obtain ⟨q0, g0, g1⟩ := og_arrat (w := w) (h := h3) hx1 hki
  refine va_iald C.1 C.2.1 C.2.2.2.2.2.1 hP q0 0 g1 rfl (og_vpin h4.1 hy.2 h4.2.1) hd ?_
  rw [og_clamp h4.1 hy.2]
  have e1 : ((y.toNat : Nat) : Int) = y := by have := h4.1; omega
  have r := hw x hx1 y.toNat
  rw [og_sty_arr rfl hki, e1] at r
  rw [e1]
  exact hk _ _ r h4.2.2 H locs ls hw hP hS hl
theorem og_gcald {m0 : Nat} (hf : og_OKe own cc nL dep n lt a m0 3 f) (hg : og_OKe own cc nL dep (n + 1) lt m0 b 0 g) (hd : decode cc b = .ok (.caload, 1)) : og_OKe own cc nL dep n lt a (b + 1) 0 (og_gld f g) := by
  intro p l e R s m args below meth c Q w A H0 C env st h K hn hh hk
  refine hf p l e R s m args below meth c Q w A H0 C env st h _ hn hh (fun x h1 hx h2 => ?_)
  refine hg p l e R s m args below meth c Q w A H0 C env _ h1 _ (og_wd1 hn (by omega)) h2 (fun y h3 hy h4 => ?_)
  intro H locs ls hw hP hS hl
  obtain ⟨hx1, N, hki⟩ := hx
  have hsz : og_siz x = N := by unfold og_siz; rw [hki]
  rw [hsz] at h4
  obtain ⟨q0, g0, g1⟩ := og_arrat (w := w) (h := h3) hx1 hki
  refine va_cald C.1 C.2.1 C.2.2.2.2.2.1 hP q0 2 g1 rfl (og_vpin h4.1 hy.2 h4.2.1) hd ?_
  rw [og_clamp h4.1 hy.2]
  have e1 : ((y.toNat : Nat) : Int) = y := by have := h4.1; omega
  have r := hw x hx1 y.toNat
  rw [og_sty_arr rfl hki, e1] at r
  rw [e1]
  exact hk _ _ r h4.2.2 H locs ls hw hP hS hl
theorem og_lald {kn N m0 : Nat} (hf : og_OKe own cc nL dep n lt a m0 (kn + 4) f) (hki : og_ki kn = .inr (1, N)) (hg : og_OKe own cc nL dep (n + 1) lt m0 b 0 g) (hd : decode cc b = .ok (.laload, 1)) : og_OKe own cc nL dep n lt a (b + 1) 1 (og_ald N f g) := by
  intro p l e R s m args below meth c Q w A H0 C env st h K hn hh hk
  refine hf p l e R s m args below meth c Q w A H0 C env st h _ hn hh (fun x h1 hx h2 => ?_)
  refine hg p l e R s m args below meth c Q w A H0 C env _ h1 _ (og_wd1 hn (by omega)) h2 (fun y h3 hy h4 => ?_)
  intro H locs ls hw hP hS hl
  obtain ⟨q0, g0, g1⟩ := og_arrat (w := w) (h := h3) hx.1 (by rw [hx.2]; exact hki)
  refine va_lald C.1 C.2.1 C.2.2.2.2.2.1 hP q0 1 g1 rfl (og_vpin h4.1 hy.2 h4.2.1) hd ?_
  rw [og_clamp h4.1 hy.2]
  have e1 : ((y.toNat : Nat) : Int) = y := by have := h4.1; omega
  have r := hw x hx.1 y.toNat
  rw [og_sty_arr hx.2 hki, e1] at r
  rw [e1]
  exact hk _ _ r h4.2.2 H locs ls hw hP hS hl
theorem og_yald {m0 : Nat} (hf : og_OKe own cc nL dep n lt a m0 34 f) (hg : og_OKe own cc nL dep (n + 1) lt m0 b 0 g) (hd : decode cc b = .ok (.aaload, 1)) : og_OKe own cc nL dep n lt a (b + 1) 16 (og_yld f g) := by
  intro p l e R s m args below meth c Q w A H0 C env st h K hn hh hk
  refine hf p l e R s m args below meth c Q w A H0 C env st h _ hn hh (fun x h1 hx h2 => ?_)
  refine hg p l e R s m args below meth c Q w A H0 C env _ h1 _ (og_wd1 hn (by omega)) h2 (fun y h3 hy h4 => ?_)
  intro H locs ls hw hP hS hl
  have hki : og_ki (og_kd x) = .inr (3, 20) := by rw [hx.2]; rfl
  obtain ⟨q0, g0, g1⟩ := og_arrat (w := w) (h := h3) hx.1 hki
  refine va_aldq C.1 C.2.1 C.2.2.2.2.2.1 hP q0 3 g1 rfl (og_vpin (N := 20) h4.1 hy.2 h4.2.1) hd ?_
  rw [og_clamp h4.1 hy.2]
  have e1 : og_yf y.toNat = 140 + 10 * y := by have := h4.1; unfold og_yf; omega
  have r := C.2.2.2.2.2.2.1.2.2 x hx.1 20 hki y.toNat (by have := h4.2.1; have := h4.1; omega)
  rw [e1] at r ⊢
  exact hk _ _ r h4.2.2 H locs ls hw hP hS hl
theorem og_ofNat {N : Nat} : Int32.ofNat N = Int32.ofInt (N : Int) := Int32.ofInt_eq_ofNat.symm
theorem og_alen {kn et N : Nat} (hf : og_OKe own cc nL dep n lt a b (kn + 4) f) (hki : og_ki kn = .inr (et, N)) (het : et = 0 ∨ et = 1 ∨ et = 2) (hd : decode cc b = .ok (.arraylength, 1)) : og_OKe own cc nL dep n lt a (b + 1) 0 (og_len N f) := by
  intro p l e R s m args below meth c Q w A H0 C env st h K hn hh hk
  refine hf p l e R s m args below meth c Q w A H0 C env st h _ hn hh (fun x h1 hx h2 => ?_)
  intro H locs ls hw hP hS hl
  obtain ⟨q0, g0, g1⟩ := og_arrat (w := w) (h := h1) hx.1 (by rw [hx.2]; exact hki)
  have hs := og_ki_small hki
  rcases het with rfl | rfl | rfl
  · exact va_alen C.1 C.2.1 C.2.2.2.2.2.1 hP q0 0 g1 rfl og_ofNat hd (hk _ _ ⟨by omega, by omega⟩ h2 H locs ls hw hP hS hl)
  · exact va_alen C.1 C.2.1 C.2.2.2.2.2.1 hP q0 1 g1 rfl og_ofNat hd (hk _ _ ⟨by omega, by omega⟩ h2 H locs ls hw hP hS hl)
  · exact va_alen C.1 C.2.1 C.2.2.2.2.2.1 hP q0 2 g1 rfl og_ofNat hd (hk _ _ ⟨by omega, by omega⟩ h2 H locs ls hw hP hS hl)
theorem og_galen (hf : og_OKe own cc nL dep n lt a b 2 f) (hd : decode cc b = .ok (.arraylength, 1)) : og_OKe own cc nL dep n lt a (b + 1) 0 (og_gln f) := by
  intro p l e R s m args below meth c Q w A H0 C env st h K hn hh hk
  refine hf p l e R s m args below meth c Q w A H0 C env st h _ hn hh (fun x h1 hx h2 => ?_)
  intro H locs ls hw hP hS hl
  obtain ⟨hx1, N, hki⟩ := hx
  have hsz : og_siz x = N := by unfold og_siz; rw [hki]
  rw [hsz] at h2
  obtain ⟨q0, g0, g1⟩ := og_arrat (w := w) (h := h1) hx1 hki
  have hs := og_ki_small hki
  exact va_alen C.1 C.2.1 C.2.2.2.2.2.1 hP q0 0 g1 rfl og_ofNat hd (hk _ _ ⟨by omega, by omega⟩ h2 H locs ls hw hP hS hl)
theorem og_gclen (hf : og_OKe own cc nL dep n lt a b 3 f) (hd : decode cc b = .ok (.arraylength, 1)) : og_OKe own cc nL dep n lt a (b + 1) 0 (og_gln f) := by
  intro p l e R s m args below meth c Q w A H0 C env st h K hn hh hk
  refine hf p l e R s m args below meth c Q w A H0 C env st h _ hn hh (fun x h1 hx h2 => ?_)
  intro H locs ls hw hP hS hl
  obtain ⟨hx1, N, hki⟩ := hx
  have hsz : og_siz x = N := by unfold og_siz; rw [hki]
  rw [hsz] at h2
  obtain ⟨q0, g0, g1⟩ := og_arrat (w := w) (h := h1) hx1 hki
  have hs := og_ki_small hki
  exact va_alen C.1 C.2.1 C.2.2.2.2.2.1 hP q0 2 g1 rfl og_ofNat hd (hk _ _ ⟨by omega, by omega⟩ h2 H locs ls hw hP hS hl)
/-- an array of a known kind where any int (char) array is asked -/
theorem og_gen {kn N : Nat} (hf : og_OKe own cc nL dep n lt a b (kn + 4) f) (hki : og_ki kn = .inr (0, N)) : og_OKe own cc nL dep n lt a b 2 f := by
  intro p l e R s m args below meth c Q w A H0 C env st h K hn hh hk
  refine hf p l e R s m args below meth c Q w A H0 C env st h _ hn hh (fun x h1 hx h2 => ?_)
  exact hk x h1 ⟨hx.1, N, by rw [hx.2]; exact hki⟩ h2
theorem og_genc {kn N : Nat} (hf : og_OKe own cc nL dep n lt a b (kn + 4) f) (hki : og_ki kn = .inr (2, N)) : og_OKe own cc nL dep n lt a b 3 f := by
  intro p l e R s m args below meth c Q w A H0 C env st h K hn hh hk
  refine hf p l e R s m args below meth c Q w A H0 C env st h _ hn hh (fun x h1 hx h2 => ?_)
  exact hk x h1 ⟨hx.1, N, by rw [hx.2]; exact hki⟩ h2
end
-- conditions
def og_cc (r : Int → Int → Prop) (f g : og_Ex) : og_Cd := fun env h Kt Kf => f env h fun x h1 => g env h1 fun y h2 => (r x y → Kt h2) ∧ (¬ r x y → Kf h2)
def og_cb (f : og_Ex) : og_Cd := fun env h Kt Kf => f env h fun x h1 => (x ≠ 0 → Kt h1) ∧ (x = 0 → Kf h1)
def og_and (c d : og_Cd) : og_Cd := fun env h Kt Kf => c env h (fun h1 => d env h1 Kt Kf) Kf
def og_or (c d : og_Cd) : og_Cd := fun env h Kt Kf => c env h Kt (fun h1 => d env h1 Kt Kf)
def og_not (c : og_Cd) : og_Cd := fun env h Kt Kf => c env h Kf Kt
def og_cite (c d e : og_Cd) : og_Cd := fun env h Kt Kf => c env h (fun h1 => d env h1 Kt Kf) (fun h1 => e env h1 Kt Kf)
def og_ec (c : og_Cd) : og_Ex := fun env h K => c env h (fun h1 => K 1 h1) (fun h1 => K 0 h1)
def og_ei (c : og_Cd) (f g : og_Ex) : og_Ex := fun env h K => c env h (fun h1 => f env h1 K) (fun h1 => g env h1 K)
def og_rlt (x y : Int) : Prop := x < y
def og_rle (x y : Int) : Prop := x ≤ y
def og_rgt (x y : Int) : Prop := y < x
def og_rge (x y : Int) : Prop := y ≤ x
def og_req (x y : Int) : Prop := x = y
def og_rne (x y : Int) : Prop := x ≠ y
theorem og_o_lt {x y : Int} (hx : og_i32 x) (hy : og_i32 y) : Int32.ofInt x < Int32.ofInt y ↔ x < y := by rw [Int32.lt_iff_toInt_lt, og_ti hx.1 hx.2, og_ti hy.1 hy.2]
theorem og_o_le {x y : Int} (hx : og_i32 x) (hy : og_i32 y) : Int32.ofInt x ≤ Int32.ofInt y ↔ x ≤ y := by rw [Int32.le_iff_toInt_le, og_ti hx.1 hx.2, og_ti hy.1 hy.2]
theorem og_o_eq {x y : Int} (hx : og_i32 x) (hy : og_i32 y) : Int32.ofInt x = Int32.ofInt y ↔ x = y := by rw [← Int32.toInt_inj, og_ti hx.1 hx.2, og_ti hy.1 hy.2]
theorem og_l_lt {x y : Int} (hx : og_i64 x) (hy : og_i64 y) : Int64.ofInt x < Int64.ofInt y ↔ x < y := by rw [Int64.lt_iff_toInt_lt, og_tl hx.1 hx.2, og_tl hy.1 hy.2]
theorem og_l_eq {x y : Int} (hx : og_i64 x) (hy : og_i64 y) : Int64.ofInt x = Int64.ofInt y ↔ x = y := by rw [← Int64.toInt_inj, og_tl hx.1 hx.2, og_tl hy.1 hy.2]
section
variable {own : String} {cc : ByteArray} {nL dep n : Nat} {lt : List (Nat × Nat)} {a b t T F : Nat} {f g : og_Ex} {c d : og_Cd}
theorem og_ccn {r r' : Int → Int → Prop} (hr : ∀ x y, r' x y ↔ ¬ r x y) (hc : og_OKc own cc nL dep n lt a T F (og_cc r f g)) : og_OKc own cc nL dep n lt a F T (og_cc r' f g) := by
  intro p l e R s m args below meth c Q w A H0 C env st h Kt Kf hn hh ht hf
  refine hc p l e R s m args below meth c Q w A H0 C env st h Kf Kt hn ?_ hf ht
  have e : (fun x h1 => g env h1 fun y h2 => (r x y → Kf h2) ∧ (¬ r x y → Kt h2)) = (fun x h1 => g env h1 fun y h2 => (r' x y → Kt h2) ∧ (¬ r' x y → Kf h2)) := by
    funext x h1
    congr 1
    funext y h2
    simp only [hr, Classical.not_not]
    exact propext And.comm
  unfold og_cc at hh ⊢
  rw [e]
  exact hh
theorem og_cand {m0 : Nat} (h1 : og_OKc own cc nL dep n lt a m0 F c) (h2 : og_OKc own cc nL dep n lt m0 T F d) : og_OKc own cc nL dep n lt a T F (og_and c d) := by
  intro p l e R s m args below meth c Q w A H0 C env st h Kt Kf hn hh ht hf
  exact h1 p l e R s m args below meth c Q w A H0 C env st h _ Kf hn hh (fun h' hk => h2 p l e R s m args below meth c Q w A H0 C env st h' Kt Kf hn hk ht hf) hf
theorem og_cor {m0 : Nat} (h1 : og_OKc own cc nL dep n lt a T m0 c) (h2 : og_OKc own cc nL dep n lt m0 T F d) : og_OKc own cc nL dep n lt a T F (og_or c d) := by
  intro p l e R s m args below meth c Q w A H0 C env st h Kt Kf hn hh ht hf
  exact h1 p l e R s m args below meth c Q w A H0 C env st h Kt _ hn hh ht (fun h' hk => h2 p l e R s m args below meth c Q w A H0 C env st h' Kt Kf hn hk ht hf)
theorem og_cnot (h1 : og_OKc own cc nL dep n lt a T F c) : og_OKc own cc nL dep n lt a F T (og_not c) := by
  intro p l e R s m args below meth c Q w A H0 C env st h Kt Kf hn hh ht hf
  exact h1 p l e R s m args below meth c Q w A H0 C env st h Kf Kt hn hh hf ht
theorem og_ccite {m1 m2 : Nat} {d2 : og_Cd} (h1 : og_OKc own cc nL dep n lt a m1 m2 c) (h2 : og_OKc own cc nL dep n lt m1 T F d) (h3 : og_OKc own cc nL dep n lt m2 T F d2) : og_OKc own cc nL dep n lt a T F (og_cite c d d2) := by
  intro p l e R s m args below meth c Q w A H0 C env st h Kt Kf hn hh ht hf
  exact h1 p l e R s m args below meth c Q w A H0 C env st h _ _ hn hh (fun h' hk => h2 p l e R s m args below meth c Q w A H0 C env st h' Kt Kf hn hk ht hf) (fun h' hk => h3 p l e R s m args below meth c Q w A H0 C env st h' Kt Kf hn hk ht hf)
theorem og_gT {T' : Nat} {off : Int} (h1 : og_OKc own cc nL dep n lt a T F c) (hd : decode cc T = .ok (.goto off, 3)) (ho : (T : Int) + off = (T' : Int)) : og_OKc own cc nL dep n lt a T' F c := by
  intro p l e R s m args below meth c Q w A H0 C env st h Kt Kf hn hh ht hf
  exact h1 p l e R s m args below meth c Q w A H0 C env st h Kt Kf hn hh (fun h' hk H locs ls hw hP hS hl => lv_goto C.1 C.2.1 hd ho (ht h' hk H locs ls hw hP hS hl)) hf
theorem og_gF {F' : Nat} {off : Int} (h1 : og_OKc own cc nL dep n lt a T F c) (hd : decode cc F = .ok (.goto off, 3)) (ho : (F : Int) + off = (F' : Int)) : og_OKc own cc nL dep n lt a T F' c := by
  intro p l e R s m args below meth c Q w A H0 C env st h Kt Kf hn hh ht hf
  exact h1 p l e R s m args below meth c Q w A H0 C env st h Kt Kf hn hh ht (fun h' hk H locs ls hw hP hS hl => lv_goto C.1 C.2.1 hd ho (hf h' hk H locs ls hw hP hS hl))
/-- a condition as a number -/
theorem og_econd {b e0 : Nat} {off : Int} (hc : og_OKc own cc nL dep n lt a T F c) (h1 : decode cc T = .ok (.iconst 1, 1)) (h2 : decode cc (T + 1) = .ok (.goto off, 3)) (ho : ((T + 1 : Nat) : Int) + off = (e0 : Int)) (h3 : decode cc F = .ok (.iconst 0, 1)) (he : F + 1 = e0) : og_OKe own cc nL dep n lt a e0 0 (og_ec c) := by
  intro p l e R s m args below meth c Q w A H0 C env st h K hn hh hk
  refine hc p l e R s m args below meth c Q w A H0 C env st h _ _ hn hh (fun h' hk' => ?_) (fun h' hk' => ?_)
  · intro H locs ls hw hP hS hl
    exact lv_iconst C.1 C.2.1 h1 rfl (lv_goto C.1 C.2.1 h2 ho (hk 1 h' ⟨by decide, by decide⟩ hk' H locs ls hw hP hS hl))
  · intro H locs ls hw hP hS hl
    subst he
    exact lv_iconst C.1 C.2.1 h3 rfl (hk 0 h' ⟨by decide, by decide⟩ hk' H locs ls hw hP hS hl)
theorem og_eite {m1 e0 : Nat} {off : Int} (hc : og_OKc own cc nL dep n lt a T F c) (h1 : og_OKe own cc nL dep n lt T m1 t f) (hd : decode cc m1 = .ok (.goto off, 3)) (ho : (m1 : Int) + off = (e0 : Int)) (h2 : og_OKe own cc nL dep n lt F e0 t g) : og_OKe own cc nL dep n lt a e0 t (og_ei c f g) := by
  intro p l e R s m args below meth c Q w A H0 C env st h K hn hh hk
  refine hc p l e R s m args below meth c Q w A H0 C env st h _ _ hn hh (fun h' hk' => ?_) (fun h' hk' => ?_)
  · refine h1 p l e R s m args below meth c Q w A H0 C env st h' _ hn hk' (fun x h3 hx h4 => ?_)
    intro H locs ls hw hP hS hl
    exact lv_goto C.1 C.2.1 hd ho (hk x h3 hx h4 H locs ls hw hP hS hl)
  · exact h2 p l e R s m args below meth c Q w A H0 C env st h' _ hn hk' hk
theorem og_cbne {tgt : Nat} {off : Int} (hf : og_OKe own cc nL dep n lt a b 0 f) (hd : decode cc b = .ok (.ifCond .ne off, 3)) (ho : (b : Int) + off = (tgt : Int)) : og_OKc own cc nL dep n lt a tgt (b + 3) (og_cb f) := by
  intro p l e R s m args below meth c Q w A H0 C env st h Kt Kf hn hh ht hff
  refine hf p l e R s m args below meth c Q w A H0 C env st h _ hn hh (fun x h1 hx h2 => ?_)
  intro H locs ls hw hP hS hl
  refine lv_if_ne C.1 C.2.1 hd ho (fun q => ?_) (fun q => ?_)
  · exact ht h1 (h2.1 (fun e => q (by rw [e]; rfl))) H locs ls hw hP hS hl
  · exact hff h1 (h2.2 (Classical.byContradiction fun e => og_i32ne hx e q)) H locs ls hw hP hS hl
theorem og_cbeq {tgt : Nat} {off : Int} (hf : og_OKe own cc nL dep n lt a b 0 f) (hd : decode cc b = .ok (.ifCond .eq off, 3)) (ho : (b : Int) + off = (tgt : Int)) : og_OKc own cc nL dep n lt a (b + 3) tgt (og_cb f) := by
  intro p l e R s m args below meth c Q w A H0 C env st h Kt Kf hn hh ht hff
  refine hf p l e R s m args below meth c Q w A H0 C env st h _ hn hh (fun x h1 hx h2 => ?_)
  intro H locs ls hw hP hS hl
  refine lv_if_eq C.1 C.2.1 hd ho (fun q => ?_) (fun q => ?_)
  · exact hff h1 (h2.2 (Classical.byContradiction fun e => og_i32ne hx e q)) H locs ls hw hP hS hl
  · exact ht h1 (h2.1 (fun e => q (by rw [e]; rfl))) H locs ls hw hP hS hl
end
section
variable {own : String} {cc : ByteArray} {nL dep n : Nat} {lt : List (Nat × Nat)} {a b t T F : Nat} {f g : og_Ex} {c d : og_Cd}
theorem og_z32 : og_i32 0 := ⟨by decide, by decide⟩
theorem og_ilt {m0 tgt : Nat} {off : Int} (hf : og_OKe own cc nL dep n lt a m0 0 f) (hg : og_OKe own cc nL dep (n + 1) lt m0 b 0 g) (hd : decode cc b = .ok (.if_icmp .lt off, 3)) (ho : (b : Int) + off = (tgt : Int)) : og_OKc own cc nL dep n lt a tgt (b + 3) (og_cc og_rlt f g) := by
  intro p l e R s m args below meth c Q w A H0 C env st h Kt Kf hn hh ht hff
  refine hf p l e R s m args below meth c Q w A H0 C env st h _ hn hh (fun x h1 hx h2 => ?_)
  refine hg p l e R s m args below meth c Q w A H0 C env _ h1 _ (og_wd1 hn (by decide)) h2 (fun y h3 hy h4 => ?_)
  intro H locs ls hw hP hS hl
  exact lv_icmp_lt C.1 C.2.1 hd ho (fun q => ht h3 (h4.1 ((og_o_lt hx hy).mp q)) H locs ls hw hP hS hl) (fun q => hff h3 (h4.2 (fun z => q ((og_o_lt hx hy).mpr z))) H locs ls hw hP hS hl)
theorem og_zlt {tgt : Nat} {off : Int} (hf : og_OKe own cc nL dep n lt a b 0 f) (hd : decode cc b = .ok (.ifCond .lt off, 3)) (ho : (b : Int) + off = (tgt : Int)) : og_OKc own cc nL dep n lt a tgt (b + 3) (og_cc og_rlt f (og_k 0)) := by
  intro p l e R s m args below meth c Q w A H0 C env st h Kt Kf hn hh ht hff
  refine hf p l e R s m args below meth c Q w A H0 C env st h _ hn hh (fun x h1 hx h2 => ?_)
  intro H locs ls hw hP hS hl
  exact lv_if_lt C.1 C.2.1 hd ho (fun q => ht h1 (h2.1 ((og_o_lt hx og_z32).mp q)) H locs ls hw hP hS hl) (fun q => hff h1 (h2.2 (fun z => q ((og_o_lt hx og_z32).mpr z))) H locs ls hw hP hS hl)
theorem og_ile {m0 tgt : Nat} {off : Int} (hf : og_OKe own cc nL dep n lt a m0 0 f) (hg : og_OKe own cc nL dep (n + 1) lt m0 b 0 g) (hd : decode cc b = .ok (.if_icmp .le off, 3)) (ho : (b : Int) + off = (tgt : Int)) : og_OKc own cc nL dep n lt a tgt (b + 3) (og_cc og_rle f g) := by
  intro p l e R s m args below meth c Q w A H0 C env st h Kt Kf hn hh ht hff
  refine hf p l e R s m args below meth c Q w A H0 C env st h _ hn hh (fun x h1 hx h2 => ?_)
  refine hg p l e R s m args below meth c Q w A H0 C env _ h1 _ (og_wd1 hn (by decide)) h2 (fun y h3 hy h4 => ?_)
  intro H locs ls hw hP hS hl
  exact lv_icmp_le C.1 C.2.1 hd ho (fun q => ht h3 (h4.1 ((og_o_le hx hy).mp q)) H locs ls hw hP hS hl) (fun q => hff h3 (h4.2 (fun z => q ((og_o_le hx hy).mpr z))) H locs ls hw hP hS hl)
theorem og_zle {tgt : Nat} {off : Int} (hf : og_OKe own cc nL dep n lt a b 0 f) (hd : decode cc b = .ok (.ifCond .le off, 3)) (ho : (b : Int) + off = (tgt : Int)) : og_OKc own cc nL dep n lt a tgt (b + 3) (og_cc og_rle f (og_k 0)) := by
  intro p l e R s m args below meth c Q w A H0 C env st h Kt Kf hn hh ht hff
  refine hf p l e R s m args below meth c Q w A H0 C env st h _ hn hh (fun x h1 hx h2 => ?_)
  intro H locs ls hw hP hS hl
  exact lv_if_le C.1 C.2.1 hd ho (fun q => ht h1 (h2.1 ((og_o_le hx og_z32).mp q)) H locs ls hw hP hS hl) (fun q => hff h1 (h2.2 (fun z => q ((og_o_le hx og_z32).mpr z))) H locs ls hw hP hS hl)
theorem og_igt {m0 tgt : Nat} {off : Int} (hf : og_OKe own cc nL dep n lt a m0 0 f) (hg : og_OKe own cc nL dep (n + 1) lt m0 b 0 g) (hd : decode cc b = .ok (.if_icmp .gt off, 3)) (ho : (b : Int) + off = (tgt : Int)) : og_OKc own cc nL dep n lt a tgt (b + 3) (og_cc og_rgt f g) := by
  intro p l e R s m args below meth c Q w A H0 C env st h Kt Kf hn hh ht hff
  refine hf p l e R s m args below meth c Q w A H0 C env st h _ hn hh (fun x h1 hx h2 => ?_)
  refine hg p l e R s m args below meth c Q w A H0 C env _ h1 _ (og_wd1 hn (by decide)) h2 (fun y h3 hy h4 => ?_)
  intro H locs ls hw hP hS hl
  exact lv_icmp_gt C.1 C.2.1 hd ho (fun q => ht h3 (h4.1 ((og_o_lt hy hx).mp q)) H locs ls hw hP hS hl) (fun q => hff h3 (h4.2 (fun z => q ((og_o_lt hy hx).mpr z))) H locs ls hw hP hS hl)
theorem og_zgt {tgt : Nat} {off : Int} (hf : og_OKe own cc nL dep n lt a b 0 f) (hd : decode cc b = .ok (.ifCond .gt off, 3)) (ho : (b : Int) + off = (tgt : Int)) : og_OKc own cc nL dep n lt a tgt (b + 3) (og_cc og_rgt f (og_k 0)) := by
  intro p l e R s m args below meth c Q w A H0 C env st h Kt Kf hn hh ht hff
  refine hf p l e R s m args below meth c Q w A H0 C env st h _ hn hh (fun x h1 hx h2 => ?_)
  intro H locs ls hw hP hS hl
  exact lv_if_gt C.1 C.2.1 hd ho (fun q => ht h1 (h2.1 ((og_o_lt og_z32 hx).mp q)) H locs ls hw hP hS hl) (fun q => hff h1 (h2.2 (fun z => q ((og_o_lt og_z32 hx).mpr z))) H locs ls hw hP hS hl)
theorem og_ige {m0 tgt : Nat} {off : Int} (hf : og_OKe own cc nL dep n lt a m0 0 f) (hg : og_OKe own cc nL dep (n + 1) lt m0 b 0 g) (hd : decode cc b = .ok (.if_icmp .ge off, 3)) (ho : (b : Int) + off = (tgt : Int)) : og_OKc own cc nL dep n lt a tgt (b + 3) (og_cc og_rge f g) := by
  intro p l e R s m args below meth c Q w A H0 C env st h Kt Kf hn hh ht hff
  refine hf p l e R s m args below meth c Q w A H0 C env st h _ hn hh (fun x h1 hx h2 => ?_)
  refine hg p l e R s m args below meth c Q w A H0 C env _ h1 _ (og_wd1 hn (by decide)) h2 (fun y h3 hy h4 => ?_)
  intro H locs ls hw hP hS hl
  exact lv_icmp_ge C.1 C.2.1 hd ho (fun q => ht h3 (h4.1 ((og_o_le hy hx).mp q)) H locs ls hw hP hS hl) (fun q => hff h3 (h4.2 (fun z => q ((og_o_le hy hx).mpr z))) H locs ls hw hP hS hl)
theorem og_zge {tgt : Nat} {off : Int} (hf : og_OKe own cc nL dep n lt a b 0 f) (hd : decode cc b = .ok (.ifCond .ge off, 3)) (ho : (b : Int) + off = (tgt : Int)) : og_OKc own cc nL dep n lt a tgt (b + 3) (og_cc og_rge f (og_k 0)) := by
  intro p l e R s m args below meth c Q w A H0 C env st h Kt Kf hn hh ht hff
  refine hf p l e R s m args below meth c Q w A H0 C env st h _ hn hh (fun x h1 hx h2 => ?_)
  intro H locs ls hw hP hS hl
  exact lv_if_ge C.1 C.2.1 hd ho (fun q => ht h1 (h2.1 ((og_o_le og_z32 hx).mp q)) H locs ls hw hP hS hl) (fun q => hff h1 (h2.2 (fun z => q ((og_o_le og_z32 hx).mpr z))) H locs ls hw hP hS hl)
theorem og_ieq {m0 tgt : Nat} {off : Int} (hf : og_OKe own cc nL dep n lt a m0 0 f) (hg : og_OKe own cc nL dep (n + 1) lt m0 b 0 g) (hd : decode cc b = .ok (.if_icmp .eq off, 3)) (ho : (b : Int) + off = (tgt : Int)) : og_OKc own cc nL dep n lt a tgt (b + 3) (og_cc og_req f g) := by
  intro p l e R s m args below meth c Q w A H0 C env st h Kt Kf hn hh ht hff
  refine hf p l e R s m args below meth c Q w A H0 C env st h _ hn hh (fun x h1 hx h2 => ?_)
  refine hg p l e R s m args below meth c Q w A H0 C env _ h1 _ (og_wd1 hn (by decide)) h2 (fun y h3 hy h4 => ?_)
  intro H locs ls hw hP hS hl
  exact lv_icmp_eq C.1 C.2.1 hd ho (fun q => ht h3 (h4.1 ((og_o_eq hx hy).mp q)) H locs ls hw hP hS hl) (fun q => hff h3 (h4.2 (fun z => q ((og_o_eq hx hy).mpr z))) H locs ls hw hP hS hl)
theorem og_zeq {tgt : Nat} {off : Int} (hf : og_OKe own cc nL dep n lt a b 0 f) (hd : decode cc b = .ok (.ifCond .eq off, 3)) (ho : (b : Int) + off = (tgt : Int)) : og_OKc own cc nL dep n lt a tgt (b + 3) (og_cc og_req f (og_k 0)) := by
  intro p l e R s m args below meth c Q w A H0 C env st h Kt Kf hn hh ht hff
  refine hf p l e R s m args below meth c Q w A H0 C env st h _ hn hh (fun x h1 hx h2 => ?_)
  intro H locs ls hw hP hS hl
  exact lv_if_eq C.1 C.2.1 hd ho (fun q => ht h1 (h2.1 ((og_o_eq hx og_z32).mp q)) H locs ls hw hP hS hl) (fun q => hff h1 (h2.2 (fun z => q ((og_o_eq hx og_z32).mpr z))) H locs ls hw hP hS hl)
theorem og_ine {m0 tgt : Nat} {off : Int} (hf : og_OKe own cc nL dep n lt a m0 0 f) (hg : og_OKe own cc nL dep (n + 1) lt m0 b 0 g) (hd : decode cc b = .ok (.if_icmp .ne off, 3)) (ho : (b : Int) + off = (tgt : Int)) : og_OKc own cc nL dep n lt a tgt (b + 3) (og_cc og_rne f g) := by
  intro p l e R s m args below meth c Q w A H0 C env st h Kt Kf hn hh ht hff
  refine hf p l e R s m args below meth c Q w A H0 C env st h _ hn hh (fun x h1 hx h2 => ?_)
  refine hg p l e R s m args below meth c Q w A H0 C env _ h1 _ (og_wd1 hn (by decide)) h2 (fun y h3 hy h4 => ?_)
  intro H locs ls hw hP hS hl
  exact lv_icmp_ne C.1 C.2.1 hd ho (fun q => ht h3 (h4.1 ((not_congr (og_o_eq hx hy)).mp q)) H locs ls hw hP hS hl) (fun q => hff h3 (h4.2 (fun z => ((not_congr (og_o_eq hx hy)).mpr z) q)) H locs ls hw hP hS hl)
theorem og_zne {tgt : Nat} {off : Int} (hf : og_OKe own cc nL dep n lt a b 0 f) (hd : decode cc b = .ok (.ifCond .ne off, 3)) (ho : (b : Int) + off = (tgt : Int)) : og_OKc own cc nL dep n lt a tgt (b + 3) (og_cc og_rne f (og_k 0)) := by
  intro p l e R s m args below meth c Q w A H0 C env st h Kt Kf hn hh ht hff
  refine hf p l e R s m args below meth c Q w A H0 C env st h _ hn hh (fun x h1 hx h2 => ?_)
  intro H locs ls hw hP hS hl
  exact lv_if_ne C.1 C.2.1 hd ho (fun q => ht h1 (h2.1 ((not_congr (og_o_eq hx og_z32)).mp q)) H locs ls hw hP hS hl) (fun q => hff h1 (h2.2 (fun z => ((not_congr (og_o_eq hx og_z32)).mpr z) q)) H locs ls hw hP hS hl)
theorem og_lg_lt {x y : Int} (hx : og_i64 x) (hy : og_i64 y) : lg_cmp (Int64.ofInt x) (Int64.ofInt y) < 0 ↔ x < y := by
  unfold lg_cmp
  have e1 := og_l_lt hy hx
  have e2 := og_l_eq hx hy
  by_cases c1 : y < x
  · rw [if_pos (e1.mpr c1)]
    constructor <;> intro q <;> first | omega | (exact absurd q (by decide)) | decide
  · rw [if_neg (fun z => c1 (e1.mp z))]
    by_cases c2 : x = y
    · rw [if_pos (e2.mpr c2)]
      constructor <;> intro q <;> first | omega | (exact absurd q (by decide)) | decide
    · rw [if_neg (fun z => c2 (e2.mp z))]
      constructor <;> intro q <;> first | omega | (exact absurd q (by decide)) | decide
theorem og_llt {m0 tgt : Nat} {off : Int} (hf : og_OKe own cc nL dep n lt a m0 1 f) (hg : og_OKe own cc nL dep (n + 2) lt m0 b 1 g) (hd0 : decode cc b = .ok (.lcmp, 1)) (hd : decode cc (b + 1) = .ok (.ifCond .lt off, 3)) (ho : ((b + 1 : Nat) : Int) + off = (tgt : Int)) : og_OKc own cc nL dep n lt a tgt (b + 1 + 3) (og_cc og_rlt f g) := by
  intro p l e R s m args below meth c Q w A H0 C env st h Kt Kf hn hh ht hff
  refine hf p l e R s m args below meth c Q w A H0 C env st h _ hn hh (fun x h1 hx h2 => ?_)
  refine hg p l e R s m args below meth c Q w A H0 C env _ h1 _ (og_wd2 hn) h2 (fun y h3 hy h4 => ?_)
  intro H locs ls hw hP hS hl
  refine W.lcmp C.1 C.2.1 hd0 ?_
  exact lv_if_lt C.1 C.2.1 hd ho (fun q => ht h3 (h4.1 ((og_lg_lt hx hy).mp q)) H locs ls hw hP hS hl) (fun q => hff h3 (h4.2 (fun z => q ((og_lg_lt hx hy).mpr z))) H locs ls hw hP hS hl)
theorem og_lg_le {x y : Int} (hx : og_i64 x) (hy : og_i64 y) : lg_cmp (Int64.ofInt x) (Int64.ofInt y) ≤ 0 ↔ x ≤ y := by
  unfold lg_cmp
  have e1 := og_l_lt hy hx
  have e2 := og_l_eq hx hy
  by_cases c1 : y < x
  · rw [if_pos (e1.mpr c1)]
    constructor <;> intro q <;> first | omega | (exact absurd q (by decide)) | decide
  · rw [if_neg (fun z => c1 (e1.mp z))]
    by_cases c2 : x = y
    · rw [if_pos (e2.mpr c2)]
      constructor <;> intro q <;> first | omega | (exact absurd q (by decide)) | decide
    · rw [if_neg (fun z => c2 (e2.mp z))]
      constructor <;> intro q <;> first | omega | (exact absurd q (by decide)) | decide
theorem og_lle {m0 tgt : Nat} {off : Int} (hf : og_OKe own cc nL dep n lt a m0 1 f) (hg : og_OKe own cc nL dep (n + 2) lt m0 b 1 g) (hd0 : decode cc b = .ok (.lcmp, 1)) (hd : decode cc (b + 1) = .ok (.ifCond .le off, 3)) (ho : ((b + 1 : Nat) : Int) + off = (tgt : Int)) : og_OKc own cc nL dep n lt a tgt (b + 1 + 3) (og_cc og_rle f g) := by
  intro p l e R s m args below meth c Q w A H0 C env st h Kt Kf hn hh ht hff
  refine hf p l e R s m args below meth c Q w A H0 C env st h _ hn hh (fun x h1 hx h2 => ?_)
  refine hg p l e R s m args below meth c Q w A H0 C env _ h1 _ (og_wd2 hn) h2 (fun y h3 hy h4 => ?_)
  intro H locs ls hw hP hS hl
  refine W.lcmp C.1 C.2.1 hd0 ?_
  exact lv_if_le C.1 C.2.1 hd ho (fun q => ht h3 (h4.1 ((og_lg_le hx hy).mp q)) H locs ls hw hP hS hl) (fun q => hff h3 (h4.2 (fun z => q ((og_lg_le hx hy).mpr z))) H locs ls hw hP hS hl)
theorem og_lg_gt {x y : Int} (hx : og_i64 x) (hy : og_i64 y) : 0 < lg_cmp (Int64.ofInt x) (Int64.ofInt y) ↔ y < x := by
  unfold lg_cmp
  have e1 := og_l_lt hy hx
  have e2 := og_l_eq hx hy
  by_cases c1 : y < x
  · rw [if_pos (e1.mpr c1)]
    constructor <;> intro q <;> first | omega | (exact absurd q (by decide)) | decide
  · rw [if_neg (fun z => c1 (e1.mp z))]
    by_cases c2 : x = y
    · rw [if_pos (e2.mpr c2)]
      constructor <;> intro q <;> first | omega | (exact absurd q (by decide)) | decide
    · rw [if_neg (fun z => c2 (e2.mp z))]
      constructor <;> intro q <;> first | omega | (exact absurd q (by decide)) | decide
theorem og_lgt {m0 tgt : Nat} {off : Int} (hf : og_OKe own cc nL dep n lt a m0 1 f) (hg : og_OKe own cc nL dep (n + 2) lt m0 b 1 g) (hd0 : decode cc b = .ok (.lcmp, 1)) (hd : decode cc (b + 1) = .ok (.ifCond .gt off, 3)) (ho : ((b + 1 : Nat) : Int) + off = (tgt : Int)) : og_OKc own cc nL dep n lt a tgt (b + 1 + 3) (og_cc og_rgt f g) := by
  intro p l e R s m args below meth c Q w A H0 C env st h Kt Kf hn hh ht hff
  refine hf p l e R s m args below meth c Q w A H0 C env st h _ hn hh (fun x h1 hx h2 => ?_)
  refine hg p l e R s m args below meth c Q w A H0 C env _ h1 _ (og_wd2 hn) h2 (fun y h3 hy h4 => ?_)
  intro H locs ls hw hP hS hl
  refine W.lcmp C.1 C.2.1 hd0 ?_
  exact lv_if_gt C.1 C.2.1 hd ho (fun q => ht h3 (h4.1 ((og_lg_gt hx hy).mp q)) H locs ls hw hP hS hl) (fun q => hff h3 (h4.2 (fun z => q ((og_lg_gt hx hy).mpr z))) H locs ls hw hP hS hl)
theorem og_lg_ge {x y : Int} (hx : og_i64 x) (hy : og_i64 y) : 0 ≤ lg_cmp (Int64.ofInt x) (Int64.ofInt y) ↔ y ≤ x := by
  unfold lg_cmp
  have e1 := og_l_lt hy hx
  have e2 := og_l_eq hx hy
  by_cases c1 : y < x
  · rw [if_pos (e1.mpr c1)]
    constructor <;> intro q <;> first | omega | (exact absurd q (by decide)) | decide
  · rw [if_neg (fun z => c1 (e1.mp z))]
    by_cases c2 : x = y
    · rw [if_pos (e2.mpr c2)]
      constructor <;> intro q <;> first | omega | (exact absurd q (by decide)) | decide
    · rw [if_neg (fun z => c2 (e2.mp z))]
      constructor <;> intro q <;> first | omega | (exact absurd q (by decide)) | decide
theorem og_lge {m0 tgt : Nat} {off : Int} (hf : og_OKe own cc nL dep n lt a m0 1 f) (hg : og_OKe own cc nL dep (n + 2) lt m0 b 1 g) (hd0 : decode cc b = .ok (.lcmp, 1)) (hd : decode cc (b + 1) = .ok (.ifCond .ge off, 3)) (ho : ((b + 1 : Nat) : Int) + off = (tgt : Int)) : og_OKc own cc nL dep n lt a tgt (b + 1 + 3) (og_cc og_rge f g) := by
  intro p l e R s m args below meth c Q w A H0 C env st h Kt Kf hn hh ht hff
  refine hf p l e R s m args below meth c Q w A H0 C env st h _ hn hh (fun x h1 hx h2 => ?_)
  refine hg p l e R s m args below meth c Q w A H0 C env _ h1 _ (og_wd2 hn) h2 (fun y h3 hy h4 => ?_)
  intro H locs ls hw hP hS hl
  refine W.lcmp C.1 C.2.1 hd0 ?_
  exact lv_if_ge C.1 C.2.1 hd ho (fun q => ht h3 (h4.1 ((og_lg_ge hx hy).mp q)) H locs ls hw hP hS hl) (fun q => hff h3 (h4.2 (fun z => q ((og_lg_ge hx hy).mpr z))) H locs ls hw hP hS hl)
theorem og_lg_eq {x y : Int} (hx : og_i64 x) (hy : og_i64 y) : lg_cmp (Int64.ofInt x) (Int64.ofInt y) = 0 ↔ x = y := by
  unfold lg_cmp
  have e1 := og_l_lt hy hx
  have e2 := og_l_eq hx hy
  by_cases c1 : y < x
  · rw [if_pos (e1.mpr c1)]
    constructor <;> intro q <;> first | omega | (exact absurd q (by decide)) | decide
  · rw [if_neg (fun z => c1 (e1.mp z))]
    by_cases c2 : x = y
    · rw [if_pos (e2.mpr c2)]
      constructor <;> intro q <;> first | omega | (exact absurd q (by decide)) | decide
    · rw [if_neg (fun z => c2 (e2.mp z))]
      constructor <;> intro q <;> first | omega | (exact absurd q (by decide)) | decide
theorem og_leq {m0 tgt : Nat} {off : Int} (hf : og_OKe own cc nL dep n lt a m0 1 f) (hg : og_OKe own cc nL dep (n + 2) lt m0 b 1 g) (hd0 : decode cc b = .ok (.lcmp, 1)) (hd : decode cc (b + 1) = .ok (.ifCond .eq off, 3)) (ho : ((b + 1 : Nat) : Int) + off = (tgt : Int)) : og_OKc own cc nL dep n lt a tgt (b + 1 + 3) (og_cc og_req f g) := by
  intro p l e R s m args below meth c Q w A H0 C env st h Kt Kf hn hh ht hff
  refine hf p l e R s m args below meth c Q w A H0 C env st h _ hn hh (fun x h1 hx h2 => ?_)
  refine hg p l e R s m args below meth c Q w A H0 C env _ h1 _ (og_wd2 hn) h2 (fun y h3 hy h4 => ?_)
  intro H locs ls hw hP hS hl
  refine W.lcmp C.1 C.2.1 hd0 ?_
  exact lv_if_eq C.1 C.2.1 hd ho (fun q => ht h3 (h4.1 ((og_lg_eq hx hy).mp q)) H locs ls hw hP hS hl) (fun q => hff h3 (h4.2 (fun z => q ((og_lg_eq hx hy).mpr z))) H locs ls hw hP hS hl)
theorem og_lg_ne {x y : Int} (hx : og_i64 x) (hy : og_i64 y) : ¬ lg_cmp (Int64.ofInt x) (Int64.ofInt y) = 0 ↔ x ≠ y := by
  unfold lg_cmp
  have e1 := og_l_lt hy hx
  have e2 := og_l_eq hx hy
  by_cases c1 : y < x
  · rw [if_pos (e1.mpr c1)]
    constructor <;> intro q <;> first | omega | (exact absurd q (by decide)) | decide
  · rw [if_neg (fun z => c1 (e1.mp z))]
    by_cases c2 : x = y
    · rw [if_pos (e2.mpr c2)]
      constructor <;> intro q <;> first | omega | (exact absurd q (by decide)) | decide
    · rw [if_neg (fun z => c2 (e2.mp z))]
      constructor <;> intro q <;> first | omega | (exact absurd q (by decide)) | decide
theorem og_lne {m0 tgt : Nat} {off : Int} (hf : og_OKe own cc nL dep n lt a m0 1 f) (hg : og_OKe own cc nL dep (n + 2) lt m0 b 1 g) (hd0 : decode cc b = .ok (.lcmp, 1)) (hd : decode cc (b + 1) = .ok (.ifCond .ne off, 3)) (ho : ((b + 1 : Nat) : Int) + off = (tgt : Int)) : og_OKc own cc nL dep n lt a tgt (b + 1 + 3) (og_cc og_rne f g) := by
  intro p l e R s m args below meth c Q w A H0 C env st h Kt Kf hn hh ht hff
  refine hf p l e R s m args below meth c Q w A H0 C env st h _ hn hh (fun x h1 hx h2 => ?_)
  refine hg p l e R s m args below meth c Q w A H0 C env _ h1 _ (og_wd2 hn) h2 (fun y h3 hy h4 => ?_)
  intro H locs ls hw hP hS hl
  refine W.lcmp C.1 C.2.1 hd0 ?_
  exact lv_if_ne C.1 C.2.1 hd ho (fun q => ht h3 (h4.1 ((og_lg_ne hx hy).mp q)) H locs ls hw hP hS hl) (fun q => hff h3 (h4.2 (fun z => ((og_lg_ne hx hy).mpr z) q)) H locs ls hw hP hS hl)
theorem og_n_ge : ∀ x y, og_rge x y ↔ ¬ og_rlt x y := by intro x y; unfold og_rge og_rlt; omega
theorem og_n_gt : ∀ x y, og_rgt x y ↔ ¬ og_rle x y := by intro x y; unfold og_rgt og_rle; omega
theorem og_n_le : ∀ x y, og_rle x y ↔ ¬ og_rgt x y := by intro x y; unfold og_rle og_rgt; omega
theorem og_n_lt : ∀ x y, og_rlt x y ↔ ¬ og_rge x y := by intro x y; unfold og_rlt og_rge; omega
theorem og_n_ne : ∀ x y, og_rne x y ↔ ¬ og_req x y := by intro x y; unfold og_rne og_req; omega
theorem og_n_eq : ∀ x y, og_req x y ↔ ¬ og_rne x y := by intro x y; unfold og_req og_rne; omega
end
