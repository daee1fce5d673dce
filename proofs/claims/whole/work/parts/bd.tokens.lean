section
-- what makes the tokens, whole
def cn_B_Tok : List (Nat × cn_B) := [(14, 0, 31, [], 19, 9)]
theorem cn_Tokens {l : Launch} {D : va_G} {C : Nat → ClassId} {z a1 a v : Nat} : cn_MOKe cn_y_Tokens cn_c_Tokens 5 5 1 31 l D C z [a1] (.inr (2, cn_0_Tokens)) (cn_X_Tokens C z a1) (sg_E a v z) := by
  refine cn_enterE (y := cn_y_Tokens) (cc := cn_c_Tokens) (idx := 3) (by decide) (Nat.le_of_ble_eq_true rfl) rfl (og_mc1 180 rfl rfl) (by decide +kernel) (by decide +kernel) (by decide) (fun p e s m args below meth c ls X hm hr hlk hz hl hS hE => ?_)
  refine lv_aload_n X.1 X.2.1 (pc := 4) (k := 0) (by decide +kernel) rfl (lv_at hl 0 rfl) ?_
  refine lv_aload_n X.1 X.2.1 (k := 1) (by decide +kernel) rfl (lv_at hl 1 rfl) ?_
  refine cn_put (q0 := 0) (k := 0) (index := 9) (fs := cn_0_Tokens) X cn_l_Tokens hm hS rfl (by decide) (og_mc1 230 rfl rfl) rfl rfl rfl (by decide +kernel) (fun H1 locs1 hS => ?_)
  refine lv_aload_n X.1 X.2.1 (pc := 9) (k := 0) (by decide +kernel) rfl (lv_at hl 0 rfl) ?_
  refine cn_push (v := -1) X (by decide +kernel) ?_
  refine cn_put (q0 := 0) (k := 8) (index := 15) (fs := cn_0_Tokens.set 0 (.ref a1)) X cn_l_Tokens hm hS rfl ⟨by decide, (by decide : 8 < 10)⟩ (og_mc2 5 rfl rfl) rfl rfl rfl (by decide +kernel) (fun H1 locs1 hS => ?_)
  refine cn_bs X cn_l_Tokens hm (lv_at hl 0 rfl) cn_B_Tok 14 ((cn_0_Tokens.set 0 (.ref a1)).set 8 (.int (Int32.ofInt (-1)))) [] _ _ 0 0 (by decide +kernel) (List.forall_mem_cons.mpr ⟨(og_mc2 7 rfl rfl), fun _ h => absurd h List.not_mem_nil⟩) (List.forall_mem_cons.mpr ⟨⟨by decide, rfl, fun _ => rfl, fun _ => rfl⟩, fun _ h => absurd h List.not_mem_nil⟩) rfl (by show s.heap.size + 0 = z + (0 + 1); omega) (by decide) (by decide) hS (fun H1 locs1 hS => ?_)
  refine cn_push (pc := 22) (v := 0) X (by decide +kernel) ?_
  refine lv_istore_n (k := 2) X.1 X.2.1 (by decide +kernel) rfl hl (by decide) rfl (fun ls1 hl1 => ?_)
  have hS : cn_St D z (cn_tW C z a1 0) s.heap H1 locs1 := by
    unfold cn_tW
    rw [← sg_z31]
    exact hS
  exact cn_tokL (a := a) (v := v) X hr hlk hE 186 0 H1 locs1 ls1 (by decide) (lv_sub hl1 [0, 1] rfl) hS
end
