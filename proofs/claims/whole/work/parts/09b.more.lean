theorem og_lkn {cs : List (Int × Nat)} {d : Nat} {x : Int} (h : x ∉ cs.map Prod.fst) : og_lk cs d x = d := og_lk_d (fun q hq z => h (List.mem_map.mpr ⟨q, hq, z⟩))
theorem og_lkeq0 {b d : Nat} {dflt x : Int} (hd : (b : Int) + dflt = (d : Int)) : ∀ (ps : List (Int × Int)) (cs : List (Int × Nat)), ps.map (fun q => (q.1, (b : Int) + q.2)) = cs.map (fun q => (q.1, (q.2 : Int))) → (b : Int) + Op.lookupswitch.offset ps dflt x = (og_lk cs d x : Int)
  | [], [], _ => hd
  | (k, o) :: ps, (k', t) :: cs, h => by
    simp only [List.map_cons, List.cons.injEq, Prod.mk.injEq] at h
    obtain ⟨⟨h1, h2⟩, h3⟩ := h
    subst h1
    rw [Op.lookupswitch.offset_cons]
    unfold og_lk
    by_cases e : k = x
    · rw [if_pos e, if_pos e.symm]
      exact h2
    · rw [if_neg e, if_neg (fun z => e z.symm)]
      exact og_lkeq0 hd ps cs h3
  | [], _ :: _, h => by cases h
  | _ :: _, [], h => by cases h
theorem og_lkeq {b d : Nat} {dflt : Int} {ps : Array (Int × Int)} {cs : List (Int × Nat)} (h : ps.toList.map (fun q => (q.1, (b : Int) + q.2)) = cs.map (fun q => (q.1, (q.2 : Int))) ∧ (b : Int) + dflt = (d : Int)) : ∀ x, (b : Int) + Op.lookupswitch.offset ps.toList dflt x = (og_lk cs d x : Int) := fun _ => og_lkeq0 h.2 _ _ h.1
section
variable {own : String} {cc : ByteArray} {nL dep n : Nat} {lt : List (Nat × Nat)} {a b t T F : Nat} {f g : og_Ex} {c d : og_Cd}
theorem og_econd2 {e0 : Nat} {off off2 : Int} (hc : og_OKc own cc nL dep n lt a T F c) (h1 : decode cc T = .ok (.iconst 1, 1)) (h2 : decode cc (T + 1) = .ok (.goto off, 3)) (ho : ((T + 1 : Nat) : Int) + off = (e0 : Int)) (h3 : decode cc F = .ok (.iconst 0, 1)) (h4 : decode cc (F + 1) = .ok (.goto off2, 3)) (ho2 : ((F + 1 : Nat) : Int) + off2 = (e0 : Int)) : og_OKe own cc nL dep n lt a e0 0 (og_ec c) := by
  intro p l e R s m args below meth c Q w A H0 C env st h K hn hh hk
  refine hc p l e R s m args below meth c Q w A H0 C env st h _ _ hn hh (fun h' hk' => ?_) (fun h' hk' => ?_)
  · intro H locs ls hw hP hS hl
    exact lv_iconst C.1 C.2.1 h1 rfl (lv_goto C.1 C.2.1 h2 ho (hk 1 h' ⟨by decide, by decide⟩ hk' H locs ls hw hP hS hl))
  · intro H locs ls hw hP hS hl
    exact lv_iconst C.1 C.2.1 h3 rfl (lv_goto C.1 C.2.1 h4 ho2 (hk 0 h' ⟨by decide, by decide⟩ hk' H locs ls hw hP hS hl))
theorem og_eite2 {e0 : Nat} (hc : og_OKc own cc nL dep n lt a T F c) (h1 : og_OKe own cc nL dep n lt T e0 t f) (h2 : og_OKe own cc nL dep n lt F e0 t g) : og_OKe own cc nL dep n lt a e0 t (og_ei c f g) := by
  intro p l e R s m args below meth c Q w A H0 C env st h K hn hh hk
  refine hc p l e R s m args below meth c Q w A H0 C env st h _ _ hn hh (fun h' hk' => ?_) (fun h' hk' => ?_)
  · exact h1 p l e R s m args below meth c Q w A H0 C env st h' _ hn hk' hk
  · exact h2 p l e R s m args below meth c Q w A H0 C env st h' _ hn hk' hk
theorem og_ldcw {x : Int} {ix : Nat} (h0 : -2147483648 ≤ x ∧ x ≤ 2147483647) (hw0 : Cond.constant own ix (Int32.ofInt x) ∈ og_tbl) (hd : decode cc a = .ok (.ldc_w ix, 3)) : og_OKe own cc nL dep n lt a (a + 3) 0 (og_k x) := by
  intro p l e R s m args below meth c Q w A H0 C env st h K hn hf hk H locs ls hw hP hS hl
  exact lv_ldcw C.1 C.2.1 C.2.2.2.1 (C.2.2.2.2.1 _ hw0) hd (hk _ _ ⟨by omega, by omega⟩ hf H locs ls hw hP hS hl)
end
