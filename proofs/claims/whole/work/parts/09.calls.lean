-- the calls themselves, methods
section
variable {p : Program} {l : Launch} {e : Env} {R : Room} {s : State} {m : MethodId} {args : Array Value} {below : List Frame} {meth : Method} {c : Code} {Q : State → Prop} {w : og_Wd} {A : Nat → Prop} {H0 H : Heap} {locs : List Loc}
variable {own : String} {cc : ByteArray} {nL dep n : Nat} {lt : List (Nat × Nat)} {pc t : Nat} {env : List Int} {rest : List Value} {h : Hp} {K : Int → Hp → Prop} {ls : Array Slot}
variable {y : MethodName} {cy : ByteArray} {ny tr dy kn idx : Nat} {ts : List Nat} {den : og_Dn} {x : Int} {xs : List Int}
theorem og_runV (C : og_Cx own cc nL dep p R s m args c w A H0) (hM : og_MOK y cy ny tr dy ((kn + 4) :: ts) den) (hV : og_sV own idx y cy ny tr dy dep kn ts.length) (hlink : Cond.methodLink own idx y ∈ og_tbl) (hd : decode cc pc = .ok (.invokevirtual idx, 3)) (hx : og_typed w.1 ((kn + 4) :: ts) (x :: xs)) (hwf : og_wf w.1 h) (hP : va_P w.2.1 og_cl (og_wW w h) H) (hsz : ls.size = nL) (hrest : og_wd rest ≤ 8) (hden : den (x :: xs) h K) :
    va_Run p l e R s m args below meth c H locs 0 0 0 0 (F0 m pc ls ((og_cvs w ts xs).reverse ++ .ref (w.2.2.1 x) :: rest)) rest (og_post tr w K (og_A w H.size) (Value.ref (w.2.2.1 x) :: og_cvs w ts xs).toArray) (og_A w H.size) := by
  obtain ⟨⟨ci, sl, T, N, k1, k2, k3⟩, v1, v2, v3, v4, v5, v6, v7⟩ := hV
  have hm := hM l w H.size (x :: xs) h K C.2.2.2.2.2.2.1 hx hwf hden
  have hR := C.2.2.2.2.2.2.2.1
  obtain ⟨sl0, hsl0⟩ : ∃ q, sl[0]? = some q := ⟨sl[0], List.getElem?_eq_getElem k2⟩
  obtain ⟨q0, g0, g1, -⟩ := og_obj (w := w) (h := h) (k := 0) hx.1.1 hx.1.2 k1 (t := sl0.1) (q := sl0.2) hsl0
  have hG : GoodIn og_tbl (wsV own idx y.cls y (Cond.code y cy ny (og_rt tr) :: og_tbl)) := by
    intro q hq
    rcases List.mem_append.mp hq with hq | hq
    · simp only [List.mem_cons, List.not_mem_nil, or_false] at hq
      rcases hq with rfl | rfl | rfl | rfl
      · exact og_tbl_good _ hlink
      · exact og_tbl_good _ v1
      · exact og_tbl_good _ v2
      · exact og_tbl_good _ v3
    · exact og_goodC v4 q hq
  exact va_runV (As := og_cvs w ts xs) (rest := rest) ⟨C.1, C.2.1, C.2.2.1, C.2.2.2.1, C.2.2.2.2.1⟩ hm (cwV ts.length C.2.2.2.2.1 hG rfl rfl rfl ⟨rfl, v5⟩ (by rw [hR]; show dy + 1 ≤ dep ∧ 8 + (ny + 11) + 60 * dy ≤ 60 * dep; omega))
    ⟨og_pre_blind, va_recv C.2.2.2.2.2.1 hP k3 g1, fun U hU hW => ⟨rfl, by rw [hU], by rw [hU]; exact hP, va_K.moved hW.alike C.2.2.2.2.2.1, (C.2.2.2.2.2.2.2.2.1 h).weaken (fun _ _ _ _ => trivial), og_nest_warm hW (fun r hr => va_Nw.of (og_nest_tab hr) (C.2.2.2.2.2.2.2.2.2.2 r hr))⟩⟩ rfl (og_typed_len hx.2 w) hsz rfl (lv_room hrest) hd ⟨Nat.zero_le _, Nat.zero_le _⟩
theorem og_runS (C : og_Cx own cc nL dep p R s m args c w A H0) (hM : og_MOK y cy ny tr dy ts den) (hV : og_sS y cy ny tr dy dep ts.length) (hlink : Cond.methodLink own idx y ∈ og_tbl) (hd : decode cc pc = .ok (.invokestatic idx, 3)) (hx : og_typed w.1 ts xs) (hwf : og_wf w.1 h) (hP : va_P w.2.1 og_cl (og_wW w h) H) (hsz : ls.size = nL) (hrest : og_wd rest ≤ 8) (hden : den xs h K) :
    va_Run p l e R s m args below meth c H locs 0 0 0 0 (F0 m pc ls ((og_cvs w ts xs).reverse ++ rest)) rest (og_post tr w K (og_A w H.size) (og_cvs w ts xs).toArray) (og_A w H.size) := by
  obtain ⟨v1, v3, v4, v5, v6, v7⟩ := hV
  have hm := hM l w H.size xs h K C.2.2.2.2.2.2.1 hx hwf hden
  have hR := C.2.2.2.2.2.2.2.1
  have hG : GoodIn og_tbl (va_wsS own idx y (Cond.code y cy ny (og_rt tr) :: og_tbl)) := by
    intro q hq
    rcases List.mem_append.mp hq with hq | hq
    · simp only [List.mem_cons, List.not_mem_nil, or_false] at hq
      rcases hq with rfl | rfl | rfl
      · exact og_tbl_good _ hlink
      · exact og_tbl_good _ v1
      · exact og_tbl_good _ v3
    · exact og_goodC v4 q hq
  exact va_runS (As := og_cvs w ts xs) (rest := rest) ⟨C.1, C.2.1, C.2.2.1, C.2.2.2.1, C.2.2.2.2.1⟩ hm (va_cwS ts.length C.2.2.2.2.1 hG rfl rfl rfl v5 (by rw [hR]; show dy + 1 ≤ dep ∧ 8 + (ny + 11) + 60 * dy ≤ 60 * dep; omega))
    ⟨og_pre_blind, fun U hU hW => ⟨rfl, by rw [hU], by rw [hU]; exact hP, va_K.moved hW.alike C.2.2.2.2.2.1, (C.2.2.2.2.2.2.2.2.1 h).weaken (fun _ _ _ _ => trivial), og_nest_warm hW (fun r hr => va_Nw.of (og_nest_tab hr) (C.2.2.2.2.2.2.2.2.2.2 r hr))⟩⟩ rfl (og_typed_len hx w) hsz rfl (lv_room hrest) hd ⟨Nat.zero_le _, Nat.zero_le _⟩
theorem og_runSN {host : String} (C : og_Cx own cc nL dep p R s m args c w A H0) (hM : og_MOK y cy ny tr dy ts den) (hV : og_sS y cy ny tr dy dep ts.length) (hlink : Cond.methodLinkNest own idx y host ∈ og_nest) (hd : decode cc pc = .ok (.invokestatic idx, 3)) (hx : og_typed w.1 ts xs) (hwf : og_wf w.1 h) (hP : va_P w.2.1 og_cl (og_wW w h) H) (hsz : ls.size = nL) (hrest : og_wd rest ≤ 8) (hden : den xs h K) :
    va_Run p l e R s m args below meth c H locs 0 0 0 0 (F0 m pc ls ((og_cvs w ts xs).reverse ++ rest)) rest (og_post tr w K (og_A w H.size) (og_cvs w ts xs).toArray) (og_A w H.size) := by
  obtain ⟨v1, v3, v4, v5, v6, v7⟩ := hV
  have hm := hM l w H.size xs h K C.2.2.2.2.2.2.1 hx hwf hden
  have hR := C.2.2.2.2.2.2.2.1
  exact va_runSN (As := og_cvs w ts xs) (rest := rest) ⟨C.1, C.2.1, C.2.2.1, C.2.2.2.1, C.2.2.2.2.1⟩ hm ⟨va_cnB ts.length C.2.2.2.2.1 (og_goodC v4) rfl rfl rfl (va_Nw.of rfl (C.2.2.2.2.2.2.2.2.2.2 _ hlink)) (C.2.2.2.2.1 _ v3) v5 (by rw [hR]; show dy + 1 ≤ dep ∧ 8 + (ny + 11) + 60 * dy ≤ 60 * dep; omega), C.2.2.2.2.1 _ v1, trivial⟩
    ⟨og_pre_blind, fun U hU hW => ⟨rfl, by rw [hU], by rw [hU]; exact hP, va_K.moved hW.alike C.2.2.2.2.2.1, (C.2.2.2.2.2.2.2.2.1 h).weaken (fun _ _ _ _ => trivial), og_nest_warm hW (fun r hr => va_Nw.of (og_nest_tab hr) (C.2.2.2.2.2.2.2.2.2.2 r hr))⟩⟩ rfl (og_typed_len hx w) hsz rfl (lv_room hrest) hd ⟨Nat.zero_le _, Nat.zero_le _⟩
end
section
variable {own : String} {cc : ByteArray} {nL dep tr n : Nat} {lt lt' : List (Nat × Nat)} {a b bp cp : Nat} {bl ctl : List (Nat × Nat)} {y : MethodName} {cy : ByteArray} {ny dy kn idx : Nat} {ts : List Nat} {den : og_Dn} {fs : List og_Ex}
theorem og_callVi (ha : og_OKa own cc nL dep n lt a b ((kn + 4) :: ts) fs) (hn8 : n ≤ 8) (hM : og_MOK y cy ny 0 dy ((kn + 4) :: ts) den) (hV : og_sV own idx y cy ny 0 dy dep kn ts.length) (hlink : Cond.methodLink own idx y ∈ og_tbl) (hd : decode cc b = .ok (.invokevirtual idx, 3)) : og_OKe own cc nL dep n lt a (b + 3) 0 (og_call den fs) := by
  intro p l e R s m args below meth c Q w A H0 C env st h K hn hh hk
  refine ha p l e R s m args below meth c Q w A H0 C env st h _ hn hh (fun xs h1 hx h2 => ?_)
  intro H locs ls hw hP hS hl
  match xs, hx, h2 with
  | x :: xs, hx, h2 =>
    have e1 : (og_cvs w ((kn + 4) :: ts) (x :: xs)).reverse ++ st = (og_cvs w ts xs).reverse ++ .ref (w.2.2.1 x) :: st := by simp [og_cvs, og_cv]
    rw [e1]
    exact og_aft0 (av := #[]) C hS hl (og_runV C hM hV hlink hd hx hw hP hl.1.1 (Nat.le_trans hn hn8) h2) hk
theorem og_callVz (ha : og_OKa own cc nL dep n lt a b ((kn + 4) :: ts) fs) (hn8 : n ≤ 8) (hM : og_MOK y cy ny 3 dy ((kn + 4) :: ts) den) (hV : og_sV own idx y cy ny 3 dy dep kn ts.length) (hlink : Cond.methodLink own idx y ∈ og_tbl) (hd : decode cc b = .ok (.invokevirtual idx, 3)) : og_OKe own cc nL dep n lt a (b + 3) 0 (og_call den fs) := by
  intro p l e R s m args below meth c Q w A H0 C env st h K hn hh hk
  refine ha p l e R s m args below meth c Q w A H0 C env st h _ hn hh (fun xs h1 hx h2 => ?_)
  intro H locs ls hw hP hS hl
  match xs, hx, h2 with
  | x :: xs, hx, h2 =>
    have e1 : (og_cvs w ((kn + 4) :: ts) (x :: xs)).reverse ++ st = (og_cvs w ts xs).reverse ++ .ref (w.2.2.1 x) :: st := by simp [og_cvs, og_cv]
    rw [e1]
    exact og_aft0 (av := #[]) C hS hl (og_runV C hM hV hlink hd hx hw hP hl.1.1 (Nat.le_trans hn hn8) h2) hk
theorem og_callVl (ha : og_OKa own cc nL dep n lt a b ((kn + 4) :: ts) fs) (hn8 : n ≤ 8) (hM : og_MOK y cy ny 1 dy ((kn + 4) :: ts) den) (hV : og_sV own idx y cy ny 1 dy dep kn ts.length) (hlink : Cond.methodLink own idx y ∈ og_tbl) (hd : decode cc b = .ok (.invokevirtual idx, 3)) : og_OKe own cc nL dep n lt a (b + 3) 1 (og_call den fs) := by
  intro p l e R s m args below meth c Q w A H0 C env st h K hn hh hk
  refine ha p l e R s m args below meth c Q w A H0 C env st h _ hn hh (fun xs h1 hx h2 => ?_)
  intro H locs ls hw hP hS hl
  match xs, hx, h2 with
  | x :: xs, hx, h2 =>
    have e1 : (og_cvs w ((kn + 4) :: ts) (x :: xs)).reverse ++ st = (og_cvs w ts xs).reverse ++ .ref (w.2.2.1 x) :: st := by simp [og_cvs, og_cv]
    rw [e1]
    exact og_aft1 (av := #[]) C hS hl (og_runV C hM hV hlink hd hx hw hP hl.1.1 (Nat.le_trans hn hn8) h2) hk
theorem og_callSi (ha : og_OKa own cc nL dep n lt a b ts fs) (hn8 : n ≤ 8) (hM : og_MOK y cy ny 0 dy ts den) (hV : og_sS y cy ny 0 dy dep ts.length) (hlink : Cond.methodLink own idx y ∈ og_tbl) (hd : decode cc b = .ok (.invokestatic idx, 3)) : og_OKe own cc nL dep n lt a (b + 3) 0 (og_call den fs) := by
  intro p l e R s m args below meth c Q w A H0 C env st h K hn hh hk
  refine ha p l e R s m args below meth c Q w A H0 C env st h _ hn hh (fun xs h1 hx h2 => ?_)
  intro H locs ls hw hP hS hl
  exact og_aft0 (av := #[]) C hS hl (og_runS C hM hV hlink hd hx hw hP hl.1.1 (Nat.le_trans hn hn8) h2) hk
theorem og_callSz (ha : og_OKa own cc nL dep n lt a b ts fs) (hn8 : n ≤ 8) (hM : og_MOK y cy ny 3 dy ts den) (hV : og_sS y cy ny 3 dy dep ts.length) (hlink : Cond.methodLink own idx y ∈ og_tbl) (hd : decode cc b = .ok (.invokestatic idx, 3)) : og_OKe own cc nL dep n lt a (b + 3) 0 (og_call den fs) := by
  intro p l e R s m args below meth c Q w A H0 C env st h K hn hh hk
  refine ha p l e R s m args below meth c Q w A H0 C env st h _ hn hh (fun xs h1 hx h2 => ?_)
  intro H locs ls hw hP hS hl
  exact og_aft0 (av := #[]) C hS hl (og_runS C hM hV hlink hd hx hw hP hl.1.1 (Nat.le_trans hn hn8) h2) hk
theorem og_callSl (ha : og_OKa own cc nL dep n lt a b ts fs) (hn8 : n ≤ 8) (hM : og_MOK y cy ny 1 dy ts den) (hV : og_sS y cy ny 1 dy dep ts.length) (hlink : Cond.methodLink own idx y ∈ og_tbl) (hd : decode cc b = .ok (.invokestatic idx, 3)) : og_OKe own cc nL dep n lt a (b + 3) 1 (og_call den fs) := by
  intro p l e R s m args below meth c Q w A H0 C env st h K hn hh hk
  refine ha p l e R s m args below meth c Q w A H0 C env st h _ hn hh (fun xs h1 hx h2 => ?_)
  intro H locs ls hw hP hS hl
  exact og_aft1 (av := #[]) C hS hl (og_runS C hM hV hlink hd hx hw hP hl.1.1 (Nat.le_trans hn hn8) h2) hk
theorem og_callNi {host : String} (ha : og_OKa own cc nL dep n lt a b ts fs) (hn8 : n ≤ 8) (hM : og_MOK y cy ny 0 dy ts den) (hV : og_sS y cy ny 0 dy dep ts.length) (hlink : Cond.methodLinkNest own idx y host ∈ og_nest) (hd : decode cc b = .ok (.invokestatic idx, 3)) : og_OKe own cc nL dep n lt a (b + 3) 0 (og_call den fs) := by
  intro p l e R s m args below meth c Q w A H0 C env st h K hn hh hk
  refine ha p l e R s m args below meth c Q w A H0 C env st h _ hn hh (fun xs h1 hx h2 => ?_)
  intro H locs ls hw hP hS hl
  exact og_aft0 (av := #[]) C hS hl (og_runSN C hM hV hlink hd hx hw hP hl.1.1 (Nat.le_trans hn hn8) h2) hk
theorem og_callNz {host : String} (ha : og_OKa own cc nL dep n lt a b ts fs) (hn8 : n ≤ 8) (hM : og_MOK y cy ny 3 dy ts den) (hV : og_sS y cy ny 3 dy dep ts.length) (hlink : Cond.methodLinkNest own idx y host ∈ og_nest) (hd : decode cc b = .ok (.invokestatic idx, 3)) : og_OKe own cc nL dep n lt a (b + 3) 0 (og_call den fs) := by
  intro p l e R s m args below meth c Q w A H0 C env st h K hn hh hk
  refine ha p l e R s m args below meth c Q w A H0 C env st h _ hn hh (fun xs h1 hx h2 => ?_)
  intro H locs ls hw hP hS hl
  exact og_aft0 (av := #[]) C hS hl (og_runSN C hM hV hlink hd hx hw hP hl.1.1 (Nat.le_trans hn hn8) h2) hk
theorem og_callNl {host : String} (ha : og_OKa own cc nL dep n lt a b ts fs) (hn8 : n ≤ 8) (hM : og_MOK y cy ny 1 dy ts den) (hV : og_sS y cy ny 1 dy dep ts.length) (hlink : Cond.methodLinkNest own idx y host ∈ og_nest) (hd : decode cc b = .ok (.invokestatic idx, 3)) : og_OKe own cc nL dep n lt a (b + 3) 1 (og_call den fs) := by
  intro p l e R s m args below meth c Q w A H0 C env st h K hn hh hk
  refine ha p l e R s m args below meth c Q w A H0 C env st h _ hn hh (fun xs h1 hx h2 => ?_)
  intro H locs ls hw hP hS hl
  exact og_aft1 (av := #[]) C hS hl (og_runSN C hM hV hlink hd hx hw hP hl.1.1 (Nat.le_trans hn hn8) h2) hk
theorem og_callVv (ha : og_OKa own cc nL dep 0 lt a b ((kn + 4) :: ts) fs) (hM : og_MOK y cy ny 2 dy ((kn + 4) :: ts) den) (hV : og_sV own idx y cy ny 2 dy dep kn ts.length) (hlink : Cond.methodLink own idx y ∈ og_tbl) (hd : decode cc b = .ok (.invokevirtual idx, 3)) : og_OKs own cc nL dep tr lt a (b + 3) lt bp bl cp ctl (og_exp (og_call den fs)) := by
  intro p l e R s m args below meth c Q w A H0 C env h K Rr B Cn hh hR hk hb hc
  refine ha p l e R s m args below meth c Q w A H0 C env [] h _ (Nat.le_refl 0) hh (fun xs h1 hx h2 => ?_)
  intro H locs ls hw hP hS hl
  match xs, hx, h2 with
  | x :: xs, hx, h2 =>
    have e1 : (og_cvs w ((kn + 4) :: ts) (x :: xs)).reverse ++ [] = (og_cvs w ts xs).reverse ++ .ref (w.2.2.1 x) :: [] := by simp [og_cvs, og_cv]
    rw [e1]
    exact og_aft2 (av := #[]) (rest := []) (K := fun _ h' => K env h') C hS hl (og_runV (K := fun _ h' => K env h') C hM hV hlink hd hx hw hP hl.1.1 (show og_wd [] ≤ 8 from Nat.zero_le 8) h2) (fun h' q => hk env h' q)
theorem og_callSv (ha : og_OKa own cc nL dep 0 lt a b ts fs) (hM : og_MOK y cy ny 2 dy ts den) (hV : og_sS y cy ny 2 dy dep ts.length) (hlink : Cond.methodLink own idx y ∈ og_tbl) (hd : decode cc b = .ok (.invokestatic idx, 3)) : og_OKs own cc nL dep tr lt a (b + 3) lt bp bl cp ctl (og_exp (og_call den fs)) := by
  intro p l e R s m args below meth c Q w A H0 C env h K Rr B Cn hh hR hk hb hc
  refine ha p l e R s m args below meth c Q w A H0 C env [] h _ (Nat.le_refl 0) hh (fun xs h1 hx h2 => ?_)
  intro H locs ls hw hP hS hl
  exact og_aft2 (av := #[]) (rest := []) (K := fun _ h' => K env h') C hS hl (og_runS (K := fun _ h' => K env h') C hM hV hlink hd hx hw hP hl.1.1 (show og_wd [] ≤ 8 from Nat.zero_le 8) h2) (fun h' q => hk env h' q)
def og_max (f g : og_Ex) : og_Ex := fun env h K => f env h fun x h1 => g env h1 fun y h2 => K (max x y) h2
def og_min (f g : og_Ex) : og_Ex := fun env h K => f env h fun x h1 => g env h1 fun y h2 => K (min x y) h2
theorem og_max32 {x y : Int} (hx : og_i32 x) (hy : og_i32 y) : (if Int32.ofInt x < Int32.ofInt y then Int32.ofInt y else Int32.ofInt x) = Int32.ofInt (max x y) ∧ og_i32 (max x y) := by
  by_cases q : x < y
  · rw [if_pos ((og_o_lt hx hy).mpr q), Int.max_eq_right (by omega)]; exact ⟨rfl, hy⟩
  · rw [if_neg (fun z => q ((og_o_lt hx hy).mp z)), Int.max_eq_left (by omega)]; exact ⟨rfl, hx⟩
theorem og_min32 {x y : Int} (hx : og_i32 x) (hy : og_i32 y) : (if Int32.ofInt y < Int32.ofInt x then Int32.ofInt y else Int32.ofInt x) = Int32.ofInt (min x y) ∧ og_i32 (min x y) := by
  by_cases q : y < x
  · rw [if_pos ((og_o_lt hy hx).mpr q), Int.min_eq_right (by omega)]; exact ⟨rfl, hy⟩
  · rw [if_neg (fun z => q ((og_o_lt hy hx).mp z)), Int.min_eq_left (by omega)]; exact ⟨rfl, hx⟩
theorem og_max64 {x y : Int} (hx : og_i64 x) (hy : og_i64 y) : (if Int64.ofInt y < Int64.ofInt x then Int64.ofInt x else Int64.ofInt y) = Int64.ofInt (max x y) ∧ og_i64 (max x y) := by
  by_cases q : y < x
  · rw [if_pos ((og_l_lt hy hx).mpr q), Int.max_eq_left (by omega)]; exact ⟨rfl, hx⟩
  · rw [if_neg (fun z => q ((og_l_lt hy hx).mp z)), Int.max_eq_right (by omega)]; exact ⟨rfl, hy⟩
theorem og_min64 {x y : Int} (hx : og_i64 x) (hy : og_i64 y) : (if Int64.ofInt y < Int64.ofInt x then Int64.ofInt y else Int64.ofInt x) = Int64.ofInt (min x y) ∧ og_i64 (min x y) := by
  by_cases q : y < x
  · rw [if_pos ((og_l_lt hy hx).mpr q), Int.min_eq_right (by omega)]; exact ⟨rfl, hy⟩
  · rw [if_neg (fun z => q ((og_l_lt hy hx).mp z)), Int.min_eq_left (by omega)]; exact ⟨rfl, hx⟩
theorem og_imax {m0 : Nat} {f g : og_Ex} (hf : og_OKe own cc nL dep n lt a m0 0 f) (hg : og_OKe own cc nL dep (n + 1) lt m0 b 0 g) (hn8 : n ≤ 8) (hdep : 1 ≤ dep) (hlink : Cond.methodLink own idx Lib.Math.max.name ∈ og_tbl) (hst : Cond.static Lib.Math.max.name ∈ og_tbl) (hini : Cond.initialized "java/lang/Math" ∈ og_tbl) (hcode : Cond.code Lib.Math.max.name Lib.Math.max.code 2 (some .int) ∈ og_tbl) (hd : decode cc b = .ok (.invokestatic idx, 3)) : og_OKe own cc nL dep n lt a (b + 3) 0 (og_max f g) := by
  intro p l e R s m args below meth c Q w A H0 C env st h K hn hh hk
  refine hf p l e R s m args below meth c Q w A H0 C env st h _ hn hh (fun x h1 hx h2 => ?_)
  refine hg p l e R s m args below meth c Q w A H0 C env _ h1 _ (og_wd1 hn (by decide)) h2 (fun y h3 hy h4 => ?_)
  intro H locs ls hw hP hS hl
  have hR := C.2.2.2.2.2.2.2.1
  have hn' : og_wd st ≤ 8 := Nat.le_trans hn hn8
  refine va_mmax C.1 C.2.1 (C.2.2.1.trans hl.1.1.symm) C.2.2.2.1 (C.2.2.2.2.1 _ hlink) (C.2.2.2.2.1 _ hst) (C.2.2.2.2.1 _ hini) (C.2.2.2.2.1 _ hcode) (by rw [hR]; exact hdep) (by rw [hR]; show og_wd st + 13 ≤ 60 * dep; omega) (Nat.zero_le _) (Nat.zero_le _) hd ?_
  rw [(og_max32 hx hy).1]
  exact hk _ _ (og_max32 hx hy).2 h4 H locs ls hw hP hS hl
theorem og_imin {m0 : Nat} {f g : og_Ex} (hf : og_OKe own cc nL dep n lt a m0 0 f) (hg : og_OKe own cc nL dep (n + 1) lt m0 b 0 g) (hn8 : n ≤ 8) (hdep : 1 ≤ dep) (hlink : Cond.methodLink own idx Lib.Math.min.name ∈ og_tbl) (hst : Cond.static Lib.Math.min.name ∈ og_tbl) (hini : Cond.initialized "java/lang/Math" ∈ og_tbl) (hcode : Cond.code Lib.Math.min.name Lib.Math.min.code 2 (some .int) ∈ og_tbl) (hd : decode cc b = .ok (.invokestatic idx, 3)) : og_OKe own cc nL dep n lt a (b + 3) 0 (og_min f g) := by
  intro p l e R s m args below meth c Q w A H0 C env st h K hn hh hk
  refine hf p l e R s m args below meth c Q w A H0 C env st h _ hn hh (fun x h1 hx h2 => ?_)
  refine hg p l e R s m args below meth c Q w A H0 C env _ h1 _ (og_wd1 hn (by decide)) h2 (fun y h3 hy h4 => ?_)
  intro H locs ls hw hP hS hl
  have hR := C.2.2.2.2.2.2.2.1
  have hn' : og_wd st ≤ 8 := Nat.le_trans hn hn8
  refine va_mmin C.1 C.2.1 (C.2.2.1.trans hl.1.1.symm) C.2.2.2.1 (C.2.2.2.2.1 _ hlink) (C.2.2.2.2.1 _ hst) (C.2.2.2.2.1 _ hini) (C.2.2.2.2.1 _ hcode) (by rw [hR]; exact hdep) (by rw [hR]; show og_wd st + 13 ≤ 60 * dep; omega) (Nat.zero_le _) (Nat.zero_le _) hd ?_
  rw [(og_min32 hx hy).1]
  exact hk _ _ (og_min32 hx hy).2 h4 H locs ls hw hP hS hl
theorem og_lmax {m0 : Nat} {f g : og_Ex} (hf : og_OKe own cc nL dep n lt a m0 1 f) (hg : og_OKe own cc nL dep (n + 2) lt m0 b 1 g) (hn8 : n ≤ 8) (hdep : 1 ≤ dep) (hlink : Cond.methodLink own idx Lib.MathLoose.max_long.x ∈ og_tbl) (hst : Cond.static Lib.MathLoose.max_long.x ∈ og_tbl) (hini : Cond.initialized "java/lang/Math" ∈ og_tbl) (hcode : Cond.code Lib.MathLoose.max_long.x Lib.MathLoose.max_long.code 4 (some .long) ∈ og_tbl) (hd : decode cc b = .ok (.invokestatic idx, 3)) : og_OKe own cc nL dep n lt a (b + 3) 1 (og_max f g) := by
  intro p l e R s m args below meth c Q w A H0 C env st h K hn hh hk
  refine hf p l e R s m args below meth c Q w A H0 C env st h _ hn hh (fun x h1 hx h2 => ?_)
  refine hg p l e R s m args below meth c Q w A H0 C env _ h1 _ (og_wd2 hn) h2 (fun y h3 hy h4 => ?_)
  intro H locs ls hw hP hS hl
  have hR := C.2.2.2.2.2.2.2.1
  have hn' : og_wd st ≤ 8 := Nat.le_trans hn hn8
  refine va_mmax_long C.1 C.2.1 (C.2.2.1.trans hl.1.1.symm) C.2.2.2.1 (C.2.2.2.2.1 _ hlink) (C.2.2.2.2.1 _ hst) (C.2.2.2.2.1 _ hini) (C.2.2.2.2.1 _ hcode) (by rw [hR]; exact hdep) (by rw [hR]; show og_wd st + 15 ≤ 60 * dep; omega) (Nat.zero_le _) (Nat.zero_le _) hd ?_
  rw [(og_max64 hx hy).1]
  exact hk _ _ (og_max64 hx hy).2 h4 H locs ls hw hP hS hl
theorem og_lmin {m0 : Nat} {f g : og_Ex} (hf : og_OKe own cc nL dep n lt a m0 1 f) (hg : og_OKe own cc nL dep (n + 2) lt m0 b 1 g) (hn8 : n ≤ 8) (hdep : 1 ≤ dep) (hlink : Cond.methodLink own idx Lib.MathLoose.min_long.x ∈ og_tbl) (hst : Cond.static Lib.MathLoose.min_long.x ∈ og_tbl) (hini : Cond.initialized "java/lang/Math" ∈ og_tbl) (hcode : Cond.code Lib.MathLoose.min_long.x Lib.MathLoose.min_long.code 4 (some .long) ∈ og_tbl) (hd : decode cc b = .ok (.invokestatic idx, 3)) : og_OKe own cc nL dep n lt a (b + 3) 1 (og_min f g) := by
  intro p l e R s m args below meth c Q w A H0 C env st h K hn hh hk
  refine hf p l e R s m args below meth c Q w A H0 C env st h _ hn hh (fun x h1 hx h2 => ?_)
  refine hg p l e R s m args below meth c Q w A H0 C env _ h1 _ (og_wd2 hn) h2 (fun y h3 hy h4 => ?_)
  intro H locs ls hw hP hS hl
  have hR := C.2.2.2.2.2.2.2.1
  have hn' : og_wd st ≤ 8 := Nat.le_trans hn hn8
  refine va_mmin_long C.1 C.2.1 (C.2.2.1.trans hl.1.1.symm) C.2.2.2.1 (C.2.2.2.2.1 _ hlink) (C.2.2.2.2.1 _ hst) (C.2.2.2.2.1 _ hini) (C.2.2.2.2.1 _ hcode) (by rw [hR]; exact hdep) (by rw [hR]; show og_wd st + 15 ≤ 60 * dep; omega) (Nat.zero_le _) (Nat.zero_le _) hd ?_
  rw [(og_min64 hx hy).1]
  exact hk _ _ (og_min64 hx hy).2 h4 H locs ls hw hP hS hl
def og_acp (n0 n1 : Nat) (fa fs fb fd fn : og_Ex) : og_St := fun env h K _ _ _ => fa env h fun a h1 => fs env h1 fun sp h2 => fb env h2 fun b h3 => fd env h3 fun dp h4 => fn env h4 fun n h5 => 0 ≤ sp ∧ 0 ≤ dp ∧ 0 ≤ n ∧ sp + n ≤ (n0 : Int) ∧ dp + n ≤ (n1 : Int) ∧ K env (og_cp h5 a sp b dp n)
theorem og_cp_ne {h : Hp} {a sp b dp n j : Int} (hj : j ≠ b) : og_cp h a sp b dp n j = h j := by
  funext k'
  simp [og_cp, hj]
theorem og_acopy {f1 f2 f3 f4 f5 : og_Ex} {k0 k1 n0 n1 m1 m2 m3 m4 : Nat} (h1 : og_OKe own cc nL dep 0 lt a m1 (k0 + 4) f1) (hk0 : og_ki k0 = .inr (0, n0)) (h2 : og_OKe own cc nL dep 1 lt m1 m2 0 f2) (h3 : og_OKe own cc nL dep 2 lt m2 m3 (k1 + 4) f3) (hk1 : og_ki k1 = .inr (0, n1)) (h4 : og_OKe own cc nL dep 3 lt m3 m4 0 f4) (h5 : og_OKe own cc nL dep 4 lt m4 b 0 f5) (hdep : 1 ≤ dep)
    (hlink : Cond.methodLink own idx arraycopyName ∈ og_tbl) (hnat : Cond.native arraycopyName ∈ og_tbl) (hst : Cond.static arraycopyName ∈ og_tbl) (hini : Cond.initialized "java/lang/System" ∈ og_tbl) (hd : decode cc b = .ok (.invokestatic idx, 3)) : og_OKs own cc nL dep tr lt a (b + 3) lt bp bl cp ctl (og_acp n0 n1 f1 f2 f3 f4 f5) := by
  intro p l e R s m args below meth c Q w A H0 C env h K Rr B Cn hh hR hk hb hc
  refine h1 p l e R s m args below meth c Q w A H0 C env [] h _ (Nat.le_refl 0) hh (fun x1 g1 hx1 q1 => ?_)
  refine h2 p l e R s m args below meth c Q w A H0 C env _ g1 _ (og_wd1 (Nat.le_refl 0) (by omega)) q1 (fun x2 g2 hx2 q2 => ?_)
  refine h3 p l e R s m args below meth c Q w A H0 C env _ g2 _ (og_wd1 (og_wd1 (Nat.le_refl 0) (by omega)) (by omega)) q2 (fun x3 g3 hx3 q3 => ?_)
  refine h4 p l e R s m args below meth c Q w A H0 C env _ g3 _ (og_wd1 (og_wd1 (og_wd1 (Nat.le_refl 0) (by omega)) (by omega)) (by omega)) q3 (fun x4 g4 hx4 q4 => ?_)
  refine h5 p l e R s m args below meth c Q w A H0 C env _ g4 _ (og_wd1 (og_wd1 (og_wd1 (og_wd1 (Nat.le_refl 0) (by omega)) (by omega)) (by omega)) (by omega)) q4 (fun x5 g5 hx5 q5 => ?_)
  obtain ⟨c1, c2, c3, c4, c5, q5⟩ := q5
  intro H locs ls hw hP hS hl
  have hRm := C.2.2.2.2.2.2.2.1
  have hka : og_ki (og_kd x1) = .inr (0, n0) := by rw [hx1.2]; exact hk0
  have hkb : og_ki (og_kd x3) = .inr (0, n1) := by rw [hx3.2]; exact hk1
  obtain ⟨qa, ga0, ga1⟩ := og_arrat (w := w) (h := g5) hx1.1 hka
  obtain ⟨qb, gb0, gb1⟩ := og_arrat (w := w) (h := g5) hx3.1 hkb
  have hnf : nativeFrameWords "java/lang/System" "arraycopy" 5 = 7 := by decide +kernel
  have nn : ∀ z : Int, og_i32 z → 0 ≤ z → ¬ Int32.ofInt z < 0 := fun z hz h0 q => by
    have := (og_o_lt hz og_z32).mp q
    omega
  refine va_copyi C.1 C.2.1 (C.2.2.1.trans hl.1.1.symm) C.2.2.2.1 (C.2.2.2.2.1 _ hlink) (C.2.2.2.2.1 _ hnat) (C.2.2.2.2.1 _ hst) (C.2.2.2.2.1 _ hini) C.2.2.2.2.2.1 hP (C.2.2.2.2.2.2.2.2.1 g5) hS qa qb 0 0 (ty := .int) ga1 gb1 rfl rfl rfl (nn x2 hx2 c1) (nn x4 hx4 c2) (nn x5 hx5 c3) ?_ ?_ (fun _ _ => rfl) (by rw [hRm]; exact hdep) (by rw [hRm]; show 0 + (nativeFrameWords "java/lang/System" "arraycopy" 5 + 11) ≤ 60 * dep; omega) hd (fun H1 locs1 hP1 _ hS1 => ?_)
  · rw [og_clamp c1 hx2.2, og_clamp c3 hx5.2]; omega
  · rw [og_clamp c2 hx4.2, og_clamp c3 hx5.2]; omega
  · rw [og_clamp c1 hx2.2, og_clamp c2 hx4.2, og_clamp c3 hx5.2] at hP1
    have e : og_ce w (og_cp g5 x1 x2 x3 x4 x5) x3 = .inl (w.2.2.2 0, n1, .inl (va_cpy (fun k : Nat => Int32.ofInt (g5 x1 (k : Int))) (fun k : Nat => Int32.ofInt (g5 x3 (k : Int))) x2.toNat x4.toNat x5.toNat)) := by
      rw [og_ce_arr rfl hkb, ← og_cp_arr c1 c2 c3]
      rfl
    have hP2 : va_P w.2.1 og_cl (og_wW w (og_cp g5 x1 x2 x3 x4 x5)) H1 := by
      rw [← og_setW C.2.2.2.2.2.2.1.1 gb0 (fun j hj => og_cp_ne hj), e]
      exact hP1
    have hw2 : og_wf w.1 (og_cp g5 x1 x2 x3 x4 x5) := by
      intro i hi k
      unfold og_cp
      by_cases hc2 : i = x3 ∧ x4 ≤ (k : Int) ∧ (k : Int) < x4 + x5
      · rw [if_pos hc2]
        obtain ⟨rfl, i1, i2⟩ := hc2
        rw [og_sty_arr rfl hkb]
        have r := hw x1 hx1.1 (x2 + ((k : Int) - x4)).toNat
        rw [og_sty_arr rfl hka] at r
        have e3 : (((x2 + ((k : Int) - x4)).toNat : Nat) : Int) = x2 + ((k : Int) - x4) := by omega
        rw [e3] at r
        exact r
      · rw [if_neg hc2]
        exact hw i hi k
    exact hk _ _ q5 H1 locs1 ls hw2 hP2 hS1 hl
end
-- a method out of its body
def og_ent : List Nat → List Int → List Int
  | t :: ts, x :: xs => if t = 1 then x :: 0 :: og_ent ts xs else x :: og_ent ts xs
  | _, _ => []
def og_lt0 : Nat → List Nat → List (Nat × Nat)
  | _, [] => []
  | k, t :: ts => (k, t) :: og_lt0 (if t = 1 then k + 2 else k + 1) ts
def og_pad (nL : Nat) (l : List Int) : List Int := l ++ List.replicate (nL - l.length) 0
def og_den (ts : List Nat) (nL tr : Nat) (body : og_St) : og_Dn := fun xs h K => body (og_pad nL (og_ent ts xs)) h (fun _ h' => tr = 2 ∧ K 0 h') K (fun _ _ => False) (fun _ _ => False)
theorem og_cat1 {w : og_Wd} {t : Nat} {x : Int} : ((og_cv w t x).category = 2) ↔ t = 1 := by
  constructor
  · exact og_cat2
  · rintro rfl; rfl
theorem og_lv_args {w : og_Wd} : ∀ {ts : List Nat} {xs : List Int} (pre suf : List Int), og_typed w.1 ts xs → lv_args pre.length (og_cvs w ts xs) = (og_lt0 pre.length ts).map (fun q => (q.1, og_cv w q.2 ((pre ++ og_ent ts xs ++ suf).getD q.1 0))) ∧ (∀ q ∈ og_lt0 pre.length ts, og_rg w.1 q.2 ((pre ++ og_ent ts xs ++ suf).getD q.1 0))
  | [], [], pre, suf, _ => ⟨rfl, fun q hq => by cases hq⟩
  | t :: ts, x :: xs, pre, suf, h => by
    have hx : (pre ++ og_ent (t :: ts) (x :: xs) ++ suf).getD pre.length 0 = x := by
      rw [List.getD_eq_getElem?_getD, List.append_assoc, List.getElem?_append_right (Nat.le_refl _), Nat.sub_self]
      unfold og_ent
      split <;> rfl
    by_cases ht : t = 1
    · have ih := og_lv_args (pre ++ [x, 0]) suf h.2
      rw [List.length_append] at ih
      have e : pre ++ [x, 0] ++ og_ent ts xs ++ suf = pre ++ og_ent (t :: ts) (x :: xs) ++ suf := by simp [og_ent, ht]
      rw [e] at ih
      refine ⟨?_, fun q hq => ?_⟩
      · show (pre.length, og_cv w t x) :: lv_args (if (og_cv w t x).category = 2 then pre.length + 2 else pre.length + 1) (og_cvs w ts xs) = _
        rw [if_pos (og_cat1.mpr ht)]
        show _ = (pre.length, og_cv w t _) :: ((og_lt0 (if t = 1 then pre.length + 2 else pre.length + 1) ts).map _)
        rw [if_pos ht, hx]
        exact congrArg _ ih.1
      · unfold og_lt0 at hq
        rw [if_pos ht] at hq
        rcases List.mem_cons.mp hq with rfl | hq
        · show og_rg w.1 t _
          rw [hx]
          exact h.1
        · exact ih.2 q hq
    · have ih := og_lv_args (pre ++ [x]) suf h.2
      rw [List.length_append] at ih
      have e : pre ++ [x] ++ og_ent ts xs ++ suf = pre ++ og_ent (t :: ts) (x :: xs) ++ suf := by simp [og_ent, ht]
      rw [e] at ih
      refine ⟨?_, fun q hq => ?_⟩
      · show (pre.length, og_cv w t x) :: lv_args (if (og_cv w t x).category = 2 then pre.length + 2 else pre.length + 1) (og_cvs w ts xs) = _
        rw [if_neg (fun z => ht (og_cat1.mp z))]
        show _ = (pre.length, og_cv w t _) :: ((og_lt0 (if t = 1 then pre.length + 2 else pre.length + 1) ts).map _)
        rw [if_neg ht, hx]
        exact congrArg _ ih.1
      · unfold og_lt0 at hq
        rw [if_neg ht] at hq
        rcases List.mem_cons.mp hq with rfl | hq
        · show og_rg w.1 t _
          rw [hx]
          exact h.1
        · exact ih.2 q hq
  | [], _ :: _, _, _, h => h.elim
  | _ :: _, [], _, _, h => h.elim
theorem og_len_sl {w : og_Wd} : ∀ {ts : List Nat} {xs : List Int}, og_typed w.1 ts xs → (lg_sl (og_cvs w ts xs)).length = (og_ent ts xs).length
  | [], [], _ => rfl
  | t :: ts, x :: xs, h => by
    have ih := og_len_sl (w := w) h.2
    show (lg_sl (og_cv w t x :: og_cvs w ts xs)).length = _
    unfold lg_sl at ih ⊢
    rw [List.flatMap_cons, List.length_append, ih]
    rw [show og_ent (t :: ts) (x :: xs) = if t = 1 then x :: 0 :: og_ent ts xs else x :: og_ent ts xs from rfl]
    by_cases ht : t = 1
    · rw [if_pos (og_cat1.mpr ht), if_pos ht]
      simp; omega
    · rw [if_neg (fun z => ht (og_cat1.mp z)), if_neg ht]
      simp; omega
  | [], _ :: _, h => h.elim
  | _ :: _, [], h => h.elim
def og_entlen : List Nat → Nat
  | [] => 0
  | t :: ts => (if t = 1 then 2 else 1) + og_entlen ts
theorem og_ent_len {ids : List Int} : ∀ {ts : List Nat} {xs : List Int}, og_typed ids ts xs → (og_ent ts xs).length = og_entlen ts
  | [], [], _ => rfl
  | t :: ts, x :: xs, h => by
    have ih := og_ent_len h.2
    unfold og_ent og_entlen
    by_cases ht : t = 1
    · rw [if_pos ht, if_pos ht, List.length_cons, List.length_cons, ih]; omega
    · rw [if_neg ht, if_neg ht, List.length_cons, ih]; omega
  | [], _ :: _, h => h.elim
  | _ :: _, [], h => h.elim
theorem og_ofWF {l : Launch} {y : MethodName} {ws ws' : List Cond} {rm : Room} {Pc : Array Value → State → Prop} {Qc : Array Value → State → Outcome → State → Prop} {mc ms : Nat} {free : Addr → Prop} {cc : ByteArray} {maxL : Nat} {ret : Option FieldType}
    (hy : plainFor y = true) (hw : ws = Cond.code y cc maxL ret :: ws')
    (body : ∀ p e s m args below meth c s₁, BodyLoose p l y (headSpec ws rm) cc maxL ret e s m args below meth c s₁ → c.maxLocals = maxL → Pc args s →
      W p l e (headSpec ws rm).room s m args below meth c s.heap [] 0 0 (MQ below Qc args s mc ms free) (entryFrame m args maxL)) : Met l y ws rm Pc Qc mc ms free := by
  refine MetFree.of_bodySF (code := cc) (maxLocals := maxL) (ret := ret) hy ?_ ?_
  · intro args s m h hn
    obtain ⟨meth, c, h1, h2, h3, h4, h5, h6, -, -⟩ := Cond.code_spec hn (atoms_spec (ws := ws) h _ (by rw [hw]; exact List.mem_cons_self))
    exact ⟨meth, c, h1, h2, h3, h4, h5, h6⟩
  · intro p e s m args below meth c s₁ B hml hP _
    have hh0 : s₁.heap = s.heap := by rw [B.state]; rfl
    obtain ⟨t, a1, o, b1, b2, b3⟩ := body p e s m args below meth c s₁ B hml hP s₁ hh0 (Stand.of_body B)
    exact ⟨t, o, a1, b1, b2, ⟨b3.1, b3.2⟩⟩
theorem og_method {y : MethodName} {cc : ByteArray} {nL tr dep b : Nat} {ts : List Nat} {body : og_St} {lt' : List (Nat × Nat)} (hy : plainFor y = true) (htr : tr ≤ 3) (hlen : og_entlen ts ≤ nL) (hb : og_OKs y.cls cc nL dep tr (og_lt0 0 ts) 0 b lt' 0 [] 0 [] body) (hend : tr = 2 → decode cc b = .ok (.return_, 1)) : og_MOK y cc nL tr dep ts (og_den ts nL tr body) := by
  intro l w sz xs h K hws hty hwf hden
  refine og_ofWF (cc := cc) (maxL := nL) (ret := og_rt tr) hy rfl ?_
  intro p e s m args below meth c s₁ B hml hv
  obtain ⟨rfl, hsz, hP, hK, hD0, hNw⟩ := hv
  have hown : s.vm.findClass y.cls = some m.cls := findClass_of_methodNamed B.named
  have hts := atoms_spec (ws := Cond.code y cc nL (og_rt tr) :: og_tbl) B.pre
  subst hsz
  have hDA : ∀ h', va_D (og_A w s.heap.size) (og_wW w h') := by
    intro h'
    refine og_D_any (h := h) (hD0.weaken (fun k q hk _ => ?_))
    rw [og_wW, List.getElem?_map] at hk
    cases hj : w.1[k]? with
    | none => rw [hj] at hk; cases hk
    | some j =>
      rw [hj] at hk
      cases hk
      exact Or.inl ⟨j, List.mem_of_getElem? hj, rfl⟩
  have C : og_Cx y.cls cc nL dep p (og_rm dep) s m (og_cvs w ts xs).toArray c w (og_A w s.heap.size) s.heap := ⟨B.exec, B.bytes, hml, hown, fun q hq => hts q (List.mem_cons_of_mem _ hq), hK, hws, rfl, hDA, rfl, fun q hq => va_Nw.use (og_nest_tab hq) (hNw q hq)⟩
  have hel := og_ent_len hty
  have hl0 := lv_entry (og_cvs w ts xs) (n := nL) (by rw [og_len_sl hty, hel]; exact hlen)
  rw [lg_entry_eq]
  generalize (lg_sl (og_cvs w ts xs) ++ List.replicate (nL - (lg_sl (og_cvs w ts xs)).length) Slot.unset).toArray = ls at hl0 ⊢
  obtain ⟨a1, a2⟩ := og_lv_args (w := w) [] (List.replicate (nL - (og_ent ts xs).length) 0) hty
  have hl : og_lr w ls nL (og_lt0 0 ts) (og_pad nL (og_ent ts xs)) := by
    refine ⟨?_, a2, ?_⟩
    · have : lv_args 0 (og_cvs w ts xs) = _ := a1
      rw [this] at hl0
      exact hl0
    · unfold og_pad
      rw [List.length_append, List.length_replicate]
      omega
  have hRT : og_RT s (og_cvs w ts xs).toArray below meth (MQ below (og_post tr w K (og_A w s.heap.size)) (og_cvs w ts xs).toArray s 0 0 (og_A w s.heap.size)) w (og_A w s.heap.size) s.heap tr K := by
    refine ⟨B.notSynchronized, B.returns, _, _, rfl, fun _ hq => hq, fun x h' H locs t hw' hP' hS' hx hk ht hW => ?_⟩
    have hPt : va_P w.2.1 og_cl (og_wW w h') t.heap := by rw [ht]; exact hP'
    have ht4 : tr = 0 ∨ tr = 1 ∨ tr = 2 ∨ tr = 3 := by omega
    rcases ht4 with rfl | rfl | rfl | rfl
    · have hx : og_i32 x := hx
      exact ⟨⟨_, h', rfl, ⟨by rw [og_ti hx.1 hx.2]; exact hk, hw'⟩, hPt⟩, hS'.F ht⟩
    · have hx : og_i64 x := hx
      exact ⟨⟨_, h', rfl, ⟨by rw [og_tl hx.1 hx.2]; exact hk, hw'⟩, hPt⟩, hS'.F ht⟩
    · have hx : x = 0 := hx
      subst hx
      exact ⟨⟨h', rfl, ⟨hk, hw'⟩, hPt⟩, hS'.F ht⟩
    · have hx : og_i32 x := hx
      exact ⟨⟨_, h', rfl, ⟨by rw [og_ti hx.1 hx.2]; exact hk, hw'⟩, hPt⟩, hS'.F ht⟩
  refine hb p l e (og_rm dep) s m _ below meth c _ w (og_A w s.heap.size) s.heap C _ h _ K _ _ hden hRT (fun e1 h1 k1 => ?_) (fun _ _ z => z.elim) (fun _ _ z => z.elim) s.heap [] ls hwf hP va_S.rf hl
  obtain ⟨rfl, k1⟩ := k1
  exact og_sretv (own := y.cls) (nL := nL) (dep := dep) (lt := lt') (lt' := lt') (bp := 0) (bl := []) (cp := 0) (ctl := []) (b1 := 0) (hend rfl) p l e (og_rm dep) s m _ below meth c _ w (og_A w s.heap.size) s.heap C e1 h1 (fun _ _ => False) K (fun _ _ => False) (fun _ _ => False) k1 hRT (fun _ _ z => z.elim) (fun _ _ z => z.elim) (fun _ _ z => z.elim)
