section
-- the law: arguments, a case
def lw_dA (pc : Nat) (k : Int) : Prop := decode code pc = .ok (.aload_n 0, 1) ∧ decode code (pc + 1) = .ok (.iload_n 3, 1) ∧ decode code (pc + 2) = .ok (.iconst k, 1) ∧ decode code (pc + 3) = .ok (.iadd, 1) ∧ decode code (pc + 4) = .ok (.iaload, 1)
def lw_L (ls : Array Slot) (b a1 a2 : Nat) (i : Nat) : Prop := lv_has ls 4 [(0, .ref b), (1, .ref a1), (2, .ref a2), (3, .int (Int32.ofInt (i : Int)))]
section
variable {p : Program} {l : Launch} {e : Env} {s : State} {m : MethodId} {below : List Frame} {meth : Method} {c : Code} {Q : State → Prop} {w : og_Wd} {H : Heap} {locs : List Loc} {cells slots : Nat}
variable {b L : Nat} {xs : Nat → Int32} {pc : Nat} {ls : Array Slot} {rest : List Value} {h : Hp} {K : Int → Hp → Prop} {i a1 a2 : Nat}
theorem lw_arg {k : Nat} (C : lw_Cx p s m c b L xs w) (hl : lw_L ls b a1 a2 i) (hd : lw_dA pc (k : Int)) (hi : i + 6 ≤ L ∧ L ≤ 3072) (hk : k ≤ 5) (hS : va_S (fun q => s.heap.size ≤ q) s.heap H locs) (kk : W p l e room_1 s m #[Value.ref b] below meth c H locs cells slots Q (F0 m (pc + 5) ls (.int (xs (i + k)) :: rest))) : W p l e room_1 s m #[Value.ref b] below meth c H locs cells slots Q (F0 m pc ls rest) := by
  obtain ⟨⟨c1, c2, c3, c4⟩, c5, c6, c7, c8, c9, c10, c11⟩ := C
  obtain ⟨d0, d1, d2, d3, d4⟩ := hd
  refine lv_aload_n c1 c2 d0 rfl (lv_at hl 0 rfl) ?_
  refine lv_iload_n c1 c2 d1 rfl (lv_at hl 3 rfl) ?_
  refine lv_iconst c1 c2 d2 rfl ?_
  refine lv_iadd c1 c2 d3 ?_
  rw [← Int32.ofInt_add]
  have e : ((i : Int) + (k : Int)) = ((i + k : Nat) : Int) := by omega
  rw [e]
  refine va_sld c1 c2 c10 c11 (by show ¬ s.heap.size ≤ b; omega) hS (og_vpin (by omega) (by omega) (by omega)) d4 ?_
  rw [og_clamp (by omega) (by omega), Int.toNat_natCast]
  exact kk
/-- n arguments from pc on -/
def lw_As (p : Program) (l : Launch) (e : Env) (s : State) (m : MethodId) (below : List Frame) (meth : Method) (c : Code) (Q : State → Prop) (w : og_Wd) (b cells slots : Nat) (ls : Array Slot) (n : Nat) (ts : List Nat) (vs : List Int) (pc : Nat) : Prop :=
  ∀ (H : Heap) (locs : List Loc) (rest : List Value), va_S (fun q => s.heap.size ≤ q) s.heap H locs → W p l e room_1 s m #[Value.ref b] below meth c H locs cells slots Q (F0 m (pc + 5 * n) ls ((og_cvs w ts vs).reverse ++ rest)) → W p l e room_1 s m #[Value.ref b] below meth c H locs cells slots Q (F0 m pc ls rest)
def lw_v (xs : Nat → Int32) (i : Nat) (k : Nat) : Int := (xs (i + k)).toInt
theorem lw_A0 : lw_As p l e s m below meth c Q w b cells slots ls 0 [] [] pc := fun H locs rest hS kk => kk
theorem lw_A1 (C : lw_Cx p s m c b L xs w) (hl : lw_L ls b a1 a2 i) (hi : i + 6 ≤ L ∧ L ≤ 3072) (h1 : lw_dA pc 1) : lw_As p l e s m below meth c Q w b cells slots ls 1 [0] [lw_v xs i 1] pc := fun H locs rest hS kk => by
  refine lw_arg (k := 1) C hl h1 hi (by omega) hS ?_
  simpa only [og_cvs, og_cv, lw_v, og_oi, List.reverse_cons, List.reverse_nil, List.nil_append, List.cons_append] using kk
theorem lw_A2 (C : lw_Cx p s m c b L xs w) (hl : lw_L ls b a1 a2 i) (hi : i + 6 ≤ L ∧ L ≤ 3072) (h1 : lw_dA pc 1) (h2 : lw_dA (pc + 5) 2) : lw_As p l e s m below meth c Q w b cells slots ls 2 [0, 0] [lw_v xs i 1, lw_v xs i 2] pc := fun H locs rest hS kk => by
  refine lw_arg (k := 1) C hl h1 hi (by omega) hS ?_
  refine lw_arg (k := 2) C hl h2 hi (by omega) hS ?_
  simpa only [og_cvs, og_cv, lw_v, og_oi, List.reverse_cons, List.reverse_nil, List.nil_append, List.cons_append] using kk
theorem lw_A3 (C : lw_Cx p s m c b L xs w) (hl : lw_L ls b a1 a2 i) (hi : i + 6 ≤ L ∧ L ≤ 3072) (h1 : lw_dA pc 1) (h2 : lw_dA (pc + 5) 2) (h3 : lw_dA (pc + 5 + 5) 3) : lw_As p l e s m below meth c Q w b cells slots ls 3 [0, 0, 0] [lw_v xs i 1, lw_v xs i 2, lw_v xs i 3] pc := fun H locs rest hS kk => by
  refine lw_arg (k := 1) C hl h1 hi (by omega) hS ?_
  refine lw_arg (k := 2) C hl h2 hi (by omega) hS ?_
  refine lw_arg (k := 3) C hl h3 hi (by omega) hS ?_
  simpa only [og_cvs, og_cv, lw_v, og_oi, List.reverse_cons, List.reverse_nil, List.nil_append, List.cons_append] using kk
theorem lw_A5 (C : lw_Cx p s m c b L xs w) (hl : lw_L ls b a1 a2 i) (hi : i + 6 ≤ L ∧ L ≤ 3072) (h1 : lw_dA pc 1) (h2 : lw_dA (pc + 5) 2) (h3 : lw_dA (pc + 5 + 5) 3) (h4 : lw_dA (pc + 5 + 5 + 5) 4) (h5 : lw_dA (pc + 5 + 5 + 5 + 5) 5) : lw_As p l e s m below meth c Q w b cells slots ls 5 [0, 0, 0, 0, 0] [lw_v xs i 1, lw_v xs i 2, lw_v xs i 3, lw_v xs i 4, lw_v xs i 5] pc := fun H locs rest hS kk => by
  refine lw_arg (k := 1) C hl h1 hi (by omega) hS ?_
  refine lw_arg (k := 2) C hl h2 hi (by omega) hS ?_
  refine lw_arg (k := 3) C hl h3 hi (by omega) hS ?_
  refine lw_arg (k := 4) C hl h4 hi (by omega) hS ?_
  refine lw_arg (k := 5) C hl h5 hi (by omega) hS ?_
  simpa only [og_cvs, og_cv, lw_v, og_oi, List.reverse_cons, List.reverse_nil, List.nil_append, List.cons_append] using kk
theorem lw_AA (C : lw_Cx p s m c b L xs w) : ∀ q, og_A w H.size q → s.heap.size ≤ H.size → s.heap.size ≤ q := fun q hq hs => by
  rcases hq with ⟨j, hj, rfl⟩ | hq
  · exact og_mem_of (C.2.2.2.2.2.1 (fun _ _ => 0)) j hj
  · exact Nat.le_trans hs hq
variable {y1 y2 : MethodName} {cy1 cy2 : ByteArray} {ny1 ny2 dy1 dy2 idx1 idx2 tr1 tr2 n : Nat} {ts : List Nat} {den1 den2 : og_Dn} {vs : List Int} {N : Int}
/-- what stands at 1032 -/
def lw_K (p : Program) (l : Launch) (e : Env) (s : State) (m : MethodId) (below : List Frame) (meth : Method) (c : Code) (Q : State → Prop) (w : og_Wd) (b cells slots : Nat) (ls : Array Slot) (N : Int) : Prop :=
  ∀ (h : Hp) (H : Heap) (locs : List Loc), ST N h → og_wf w.1 h → va_P w.2.1 og_cl (og_wW w h) H → va_S (fun q => s.heap.size ≤ q) s.heap H locs → W p l e room_1 s m #[Value.ref b] below meth c H locs cells slots Q (F0 m 1032 ls [])
theorem lw_case {off : Int} (C : lw_Cx p s m c b L xs w) (hl : lw_L ls b (w.2.2.1 0) (w.2.2.1 1000) i) (hids : 0 ∈ w.1 ∧ 1000 ∈ w.1) (hc : cells ≤ 600000 ∧ slots ≤ 7302250) (hty : og_typed w.1 ts vs)
    (ht1 : tr1 = 0 ∨ tr1 = 3) (hM1 : og_MOK y1 cy1 ny1 tr1 dy1 (5 :: ts) den1) (hM2 : og_MOK y2 cy2 ny2 tr1 dy2 (17 :: ts) den2) (hV1 : og_sV R_law idx1 y1 cy1 ny1 tr1 dy1 1000 1 ts.length) (hV2 : og_sV R_law idx2 y2 cy2 ny2 tr1 dy2 1000 13 ts.length) (hk1 : Cond.methodLink R_law idx1 y1 ∈ og_tbl) (hk2 : Cond.methodLink R_law idx2 y2 ∈ og_tbl)
    (hA1 : lw_As p l e s m below meth c Q w b cells slots ls n ts vs (pc + 1)) (hA2 : lw_As p l e s m below meth c Q w b cells slots ls n ts vs (pc + 1 + 5 * n + 3 + 1)) (d0 : decode code pc = .ok (.aload_n 1, 1)) (d1 : decode code (pc + 1 + 5 * n) = .ok (.invokevirtual idx1, 3)) (d2 : decode code (pc + 1 + 5 * n + 3) = .ok (.aload_n 2, 1)) (d3 : decode code (pc + 1 + 5 * n + 3 + 1 + 5 * n) = .ok (.invokevirtual idx2, 3)) (d4 : decode code (pc + 1 + 5 * n + 3 + 1 + 5 * n + 3) = .ok (.if_icmp .eq off, 3)) (ho : ((pc + 1 + 5 * n + 3 + 1 + 5 * n + 3 : Nat) : Int) + off = ((1032 : Nat) : Int))
    (hden : den1 (0 :: vs) h (fun y1 h1 => den2 (1000 :: vs) h1 (fun y2 h2 => y1 = y2 ∧ ST N h2))) (hwf : og_wf w.1 h) (hP : va_P w.2.1 og_cl (og_wW w h) H) (hS : va_S (fun q => s.heap.size ≤ q) s.heap H locs) (kk : lw_K p l e s m below meth c Q w b cells slots ls N) : W p l e room_1 s m #[Value.ref b] below meth c H locs cells slots Q (F0 m pc ls []) := by
  have C0 := C
  obtain ⟨⟨c1, c2, c3, c4⟩, c5, c6, c7, c8, c9, c10, c11⟩ := C
  refine lv_aload_n c1 c2 d0 rfl (lv_at hl 1 rfl) ?_
  refine hA1 H locs _ hS ?_
  have r1 := lw_run (l := l) (e := e) (below := below) (meth := meth) (locs := locs) (rest := []) (ls := ls) C0 hM1 hV1 hk1 d1 ⟨⟨hids.1, by decide⟩, hty⟩ hwf hP hl.1 (by decide) hc hden
  have q1 : ∀ {tr : Nat} {w : og_Wd} {K : Int → Hp → Prop} {A : Nat → Prop} {av : Array Value}, (tr = 0 ∨ tr = 3) → og_post tr w K A av = va_Qi (S := Hp) (fun r u => K r.toInt u ∧ og_wf w.1 u) (fun u t => va_P w.2.1 og_cl (og_wW w u) t.heap) A av := fun hh => by rcases hh with rfl | rfl <;> rfl
  rw [q1 ht1] at r1
  refine va_calli r1 hS (fun q _ hq => lw_AA C0 q hq hS.1) (fun q hq => lw_AA C0 q hq hS.1) (fun v1 u1 t1 H1 locs1 e1 hvm1 hw1 hB1 hz1 hf1 hS1 => ?_)
  rw [e1] at hB1
  refine lv_aload_n c1 c2 d2 rfl (lv_at hl 2 rfl) ?_
  refine hA2 H1 locs1 _ hS1 ?_
  have r2 := lw_run (l := l) (e := e) (below := below) (meth := meth) (locs := locs1) (rest := [.int v1]) (ls := ls) (cells := cells) (slots := slots) C0 hM2 hV2 hk2 d3 ⟨⟨hids.2, by decide⟩, hty⟩ hw1.2 hB1 hl.1 (show 1 ≤ 8 by decide) hc hw1.1
  rw [q1 ht1] at r2
  refine va_calli r2 hS1 (fun q _ hq => lw_AA C0 q hq hS1.1) (fun q hq => lw_AA C0 q hq hS1.1) (fun v2 u2 t2 H2 locs2 e2 hvm2 hw2 hB2 hz2 hf2 hS2 => ?_)
  rw [e2] at hB2
  have ev : v1 = v2 := by rw [← og_oi v1, ← og_oi v2, hw2.1.1]
  exact lv_icmp_eq c1 c2 d4 ho (fun _ => kk u2 H2 locs2 hw2.1.2 hw2.2 hB2 hS2) (fun z => absurd ev z)
theorem lw_caseL {off : Int} (C : lw_Cx p s m c b L xs w) (hl : lw_L ls b (w.2.2.1 0) (w.2.2.1 1000) i) (hids : 0 ∈ w.1 ∧ 1000 ∈ w.1) (hc : cells ≤ 600000 ∧ slots ≤ 7302250) (hty : og_typed w.1 ts vs)
    (hM1 : og_MOK y1 cy1 ny1 1 dy1 (5 :: ts) den1) (hM2 : og_MOK y2 cy2 ny2 1 dy2 (17 :: ts) den2) (hV1 : og_sV R_law idx1 y1 cy1 ny1 1 dy1 1000 1 ts.length) (hV2 : og_sV R_law idx2 y2 cy2 ny2 1 dy2 1000 13 ts.length) (hk1 : Cond.methodLink R_law idx1 y1 ∈ og_tbl) (hk2 : Cond.methodLink R_law idx2 y2 ∈ og_tbl)
    (hA1 : lw_As p l e s m below meth c Q w b cells slots ls n ts vs (pc + 1)) (hA2 : lw_As p l e s m below meth c Q w b cells slots ls n ts vs (pc + 1 + 5 * n + 3 + 1)) (d0 : decode code pc = .ok (.aload_n 1, 1)) (d1 : decode code (pc + 1 + 5 * n) = .ok (.invokevirtual idx1, 3)) (d2 : decode code (pc + 1 + 5 * n + 3) = .ok (.aload_n 2, 1)) (d3 : decode code (pc + 1 + 5 * n + 3 + 1 + 5 * n) = .ok (.invokevirtual idx2, 3)) (d5 : decode code (pc + 1 + 5 * n + 3 + 1 + 5 * n + 3) = .ok (.lcmp, 1)) (d4 : decode code (pc + 1 + 5 * n + 3 + 1 + 5 * n + 3 + 1) = .ok (.ifCond .eq off, 3)) (ho : ((pc + 1 + 5 * n + 3 + 1 + 5 * n + 3 + 1 : Nat) : Int) + off = ((1032 : Nat) : Int))
    (hden : den1 (0 :: vs) h (fun y1 h1 => den2 (1000 :: vs) h1 (fun y2 h2 => y1 = y2 ∧ ST N h2))) (hwf : og_wf w.1 h) (hP : va_P w.2.1 og_cl (og_wW w h) H) (hS : va_S (fun q => s.heap.size ≤ q) s.heap H locs) (kk : lw_K p l e s m below meth c Q w b cells slots ls N) : W p l e room_1 s m #[Value.ref b] below meth c H locs cells slots Q (F0 m pc ls []) := by
  have C0 := C
  have qL : ∀ {w : og_Wd} {K : Int → Hp → Prop} {A : Nat → Prop} {av : Array Value}, og_post 1 w K A av = va_Ql (S := Hp) (fun r u => K r.toInt u ∧ og_wf w.1 u) (fun u t => va_P w.2.1 og_cl (og_wW w u) t.heap) A av := rfl
  obtain ⟨⟨c1, c2, c3, c4⟩, c5, c6, c7, c8, c9, c10, c11⟩ := C
  refine lv_aload_n c1 c2 d0 rfl (lv_at hl 1 rfl) ?_
  refine hA1 H locs _ hS ?_
  have r1 := lw_run (l := l) (e := e) (below := below) (meth := meth) (locs := locs) (rest := []) (ls := ls) C0 hM1 hV1 hk1 d1 ⟨⟨hids.1, by decide⟩, hty⟩ hwf hP hl.1 (by decide) hc hden
  rw [qL] at r1
  refine va_calll r1 hS (fun q _ hq => lw_AA C0 q hq hS.1) (fun q hq => lw_AA C0 q hq hS.1) (fun v1 u1 t1 H1 locs1 e1 hvm1 hw1 hB1 hz1 hf1 hS1 => ?_)
  rw [e1] at hB1
  refine lv_aload_n c1 c2 d2 rfl (lv_at hl 2 rfl) ?_
  refine hA2 H1 locs1 _ hS1 ?_
  have r2 := lw_run (l := l) (e := e) (below := below) (meth := meth) (locs := locs1) (rest := [.long v1]) (ls := ls) (cells := cells) (slots := slots) C0 hM2 hV2 hk2 d3 ⟨⟨hids.2, by decide⟩, hty⟩ hw1.2 hB1 hl.1 (show 2 ≤ 8 by decide) hc hw1.1
  rw [qL] at r2
  refine va_calll r2 hS1 (fun q _ hq => lw_AA C0 q hq hS1.1) (fun q hq => lw_AA C0 q hq hS1.1) (fun v2 u2 t2 H2 locs2 e2 hvm2 hw2 hB2 hz2 hf2 hS2 => ?_)
  rw [e2] at hB2
  have ev : v1 = v2 := by rw [← og_ol v1, ← og_ol v2, hw2.1.1]
  subst ev
  refine W.lcmp c1 c2 d5 ?_
  have e0 : lg_cmp v1 v1 = 0 := by simp [lg_cmp]
  rw [e0]
  exact lv_if_eq c1 c2 d4 ho (fun _ => kk u2 H2 locs2 hw2.1.2 hw2.2 hB2 hS2) (fun z => absurd rfl z)
end
end
