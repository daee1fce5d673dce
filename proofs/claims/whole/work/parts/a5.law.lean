section
-- the law: calls, arguments, a case
def lw_Cx (p : Program) (s : State) (m : MethodId) (c : Code) (b L : Nat) (xs : Nat → Int32) (w : og_Wd) : Prop :=
  (p.tables.exec = Jvm.exec ∧ c.code = code ∧ c.maxLocals = 4 ∧ s.vm.findClass R_law = some m.cls) ∧ (∀ q ∈ og_tbl, q.before #[Value.ref b] s = true) ∧ (∀ q ∈ og_nest, q.before #[Value.ref b] s = true) ∧ va_K w.2.1 og_cl (og_tyA w) s ∧ og_ws w.1 ∧ (∀ h, va_D (fun q => s.heap.size ≤ q) (og_wW w h)) ∧ va_X b L xs s s.heap ∧ b < s.heap.size
section
variable {p : Program} {l : Launch} {e : Env} {s : State} {m : MethodId} {below : List Frame} {meth : Method} {c : Code} {Q : State → Prop} {w : og_Wd} {H : Heap} {locs : List Loc} {cells slots : Nat}
variable {b L : Nat} {xs : Nat → Int32} {pc : Nat} {ls : Array Slot} {rest : List Value} {h : Hp} {K : Int → Hp → Prop}
variable {y : MethodName} {cy : ByteArray} {ny dy kn idx tr : Nat} {ts : List Nat} {den : og_Dn} {x : Int} {vs : List Int}
theorem lw_run (C : lw_Cx p s m c b L xs w) (hM : og_MOK y cy ny tr dy ((kn + 4) :: ts) den) (hV : og_sV R_law idx y cy ny tr dy 1000 kn ts.length) (hlink : Cond.methodLink R_law idx y ∈ og_tbl) (hd : decode code pc = .ok (.invokevirtual idx, 3)) (hx : og_typed w.1 ((kn + 4) :: ts) (x :: vs)) (hwf : og_wf w.1 h) (hP : va_P w.2.1 og_cl (og_wW w h) H) (hsz : ls.size = 4) (hrest : og_wd rest ≤ 8) (hc : cells ≤ 600000 ∧ slots ≤ 7302250) (hden : den (x :: vs) h K) :
    va_Run p l e room_1 s m #[Value.ref b] below meth c H locs cells slots 0 0 (F0 m pc ls ((og_cvs w ts vs).reverse ++ .ref (w.2.2.1 x) :: rest)) rest (og_post tr w K (og_A w H.size) (Value.ref (w.2.2.1 x) :: og_cvs w ts vs).toArray) (og_A w H.size) := by
  obtain ⟨⟨c1, c2, c3, c4⟩, c5, c6, c7, c8, c9, c10, c11⟩ := C
  obtain ⟨⟨ci, sl, T, N, k1, k2, k3⟩, v1, v2, v3, v4, v5, v6, v7⟩ := hV
  have hm := hM l w H.size (x :: vs) h K c8 hx hwf hden
  have hkd : og_ki (og_kd x) = .inl (ci, sl) := by rw [hx.1.2]; exact k1
  obtain ⟨q0, g0, g1⟩ := og_at (w := w) (h := h) hx.1.1
  rw [og_ce_obj rfl hkd] at g1
  have hG : GoodIn og_tbl (wsV R_law idx y.cls y (Cond.code y cy ny (og_rt tr) :: og_tbl)) := by
    intro q hq
    rcases List.mem_append.mp hq with hq | hq
    · simp only [List.mem_cons, List.not_mem_nil, or_false] at hq
      rcases hq with rfl | rfl | rfl | rfl
      · exact og_tbl_good _ hlink
      · exact og_tbl_good _ v1
      · exact og_tbl_good _ v2
      · exact og_tbl_good _ v3
    · exact og_goodC v4 q hq
  exact va_runV (As := og_cvs w ts vs) (rest := rest) ⟨c1, c2, c3, c4, c5⟩ hm (cwV ts.length c5 hG rfl rfl rfl ⟨rfl, v5⟩ (by show dy + 1 ≤ 2048 ∧ 8 + (ny + 11) + 60 * dy ≤ 84000; omega))
    ⟨og_pre_blind, va_recv c7 hP k3 g1, fun U hU hW => ⟨rfl, by rw [hU], by rw [hU]; exact hP, va_K.moved hW.alike c7, (c9 h).weaken (fun _ _ _ _ => trivial), og_nest_warm hW (fun r hr => va_Nw.of (og_nest_tab hr) (c6 r hr))⟩⟩ rfl (og_typed_len hx.2 w) hsz rfl (lv_room hrest) hd ⟨hc.1, hc.2⟩
end
end
