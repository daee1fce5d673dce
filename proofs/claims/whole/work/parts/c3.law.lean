section
-- the law, from its first row on
theorem cn_ix0 : cn_ix 0 = 0 := by decide +kernel
theorem cn_ixM : cn_ix 1000 = 276 := by decide +kernel
set_option maxRecDepth 100000 in
theorem cn_mdef : ∀ j, j < 102 → defaultValue (og_ty_Model j) = vp_V cn_0_Model j := by decide +kernel
set_option maxHeartbeats 400000 in
theorem whole_start {p : Program} {e : Env} {s : State} {m : MethodId} {below : List Frame} {meth : Method} {c : Code} (l : Launch) (hflags : l.flags = flags0) {b L : Nat} {xs : Nat → Int32} (hL : L ≤ 3072) (C0 : lw_At p s m meth c b L xs) : W p l e room_1 s m #[Value.ref b] below meth c s.heap [] 0 0 (lw_Z below #[Value.ref b] s) (entryFrame m ([Value.ref b] : List Value).toArray 4) := by
  obtain ⟨hx, hb, hr, hml, hown, hts, hX, hbl, hlocks, hgv⟩ := id C0
  have ht : ∀ q ∈ og_tbl, q.before #[Value.ref b] s = true := fun q hq => hts q (List.mem_filter.mp hq).1
  have hn : ∀ q ∈ og_nest, q.before #[Value.ref b] s = true := fun q hq => hts q (List.mem_filter.mp hq).1
  have hAO : (Cond.arrayOver (.object "OpenGraves$Yard")).before #[Value.ref b] s = true := hts _ (cn_lw 374 (by decide +kernel))
  obtain ⟨D, hD⟩ := cn_known ht
  obtain ⟨C, hC⟩ := cn_tys ht hAO
  obtain ⟨a, v, hE⟩ := cn_text hts hgv
  have hK : va_K D og_cl (cn_ty C) s := ⟨hD, hC⟩
  have X : cn_Cx R_law code 4 p s m #[Value.ref b] c D C := ⟨hx, hb, hml, hown, ht, hK⟩
  have hS : cn_St D s.heap.size [] s.heap s.heap [] := ⟨fun k q h => by simp [cn_ws] at h, va_S.rf⟩
  have hEO : cn_EO a v s.heap.size s := ⟨va_AO.of hAO, hE, va_Nw.of rfl (hn _ (og_nc1 150 rfl rfl))⟩
  have hl := lv_entry [Value.ref b] (n := 4) (Nat.le_of_ble_eq_true rfl)
  rw [lg_entry_eq]
  generalize (lg_sl [Value.ref b] ++ List.replicate (4 - (lg_sl [Value.ref b]).length) Slot.unset).toArray = ls at hl ⊢
  refine cn_new (fs := cn_0_OG) (rest := []) X cn_l_OG hS (Or.inr (Nat.le_refl _)) rfl (og_mc1 21 rfl rfl) (og_mc1 22 rfl rfl) (og_mc1 1 rfl rfl) (fun j hj => by have : j = 0 ∨ j = 1 ∨ j = 2 ∨ j = 3 ∨ j = 4 ∨ j = 5 ∨ j = 6 ∨ j = 7 ∨ j = 8 ∨ j = 9 ∨ j = 10 ∨ j = 11 ∨ j = 12 ∨ j = 13 ∨ j = 14 ∨ j = 15 ∨ j = 16 := (by omega); rcases this with  rfl | rfl | rfl | rfl | rfl | rfl | rfl | rfl | rfl | rfl | rfl | rfl | rfl | rfl | rfl | rfl | rfl  <;> rfl) (by decide) (by decide) (show decode code 0 = .ok (.new 7, 3) by decide +kernel) (fun H1 hS => ?_)
  refine lv_dup hx hb (show decode code 3 = .ok (.dup, 1) by decide +kernel) rfl ?_
  refine cn_callE cn_bEO (cs := []) (as := []) (rest := [.ref (s.heap.size + 0)]) X hS (by show s.heap.size + (0 + 1) = s.heap.size + (0 + 1); rfl) (cn_OG (a := a) (v := v)) (fun U hU hW => ?_) (og_mc1 25 rfl rfl) (og_mc1 1 rfl rfl) (og_mc1 23 rfl rfl) (og_mc1 24 rfl rfl) rfl (by decide +kernel) (by decide) (by decide) hl.1 (by show 1 + 0 ≤ 8; decide) (show decode code 4 = .ok (.invokespecial 9, 3) by decide +kernel) (fun H2 locs2 hS => ?_)
  · exact ⟨va_AO.moved hW.alike hEO.1, ⟨vk_R.warm hW hEO.2.1.1, sg_kp hS.2 hU hW.alike hEO.2.1.2⟩, va_Nw.warmF hW hEO.2.2⟩
  refine lv_astore_n (k := 1) hx hb (show decode code 7 = .ok (.astore_n 1, 1) by decide +kernel) rfl hl (by decide) rfl (fun ls1 hl1 => ?_)
  have hS : cn_St D s.heap.size (cn_X_OG C s.heap.size) s.heap H2 locs2 := hS
  refine W.widen (k := 276) (n := 9636) (by decide) (by decide) ?_
  refine cn_new (fs := cn_0_Model) (rest := []) X cn_l_Model hS (Or.inr (Nat.le_refl _)) (by rw [cn_OG_len]) (og_mc5 177 rfl rfl) (og_mc5 178 rfl rfl) (og_mc1 17 rfl rfl) cn_mdef (by decide) (by decide) (show decode code 8 = .ok (.new 10, 3) by decide +kernel) (fun H3 hS => ?_)
  refine lv_dup hx hb (show decode code 11 = .ok (.dup, 1) by decide +kernel) rfl ?_
  refine cn_call (as := []) (rest := [.ref (s.heap.size + (cn_X_OG C s.heap.size).length)]) X hS (by rw [cn_OG_len]) cn_Model (og_mc5 181 rfl rfl) (og_mc1 17 rfl rfl) (og_mc5 179 rfl rfl) (og_mc5 180 rfl rfl) rfl (by decide +kernel) (by decide) (by decide) hl1.1 (by show 1 + 0 ≤ 8; decide) (show decode code 12 = .ok (.invokespecial 12, 3) by decide +kernel) (fun H4 locs4 hS => ?_)
  rw [cn_OG_len] at hS ⊢
  refine lv_astore_n (k := 2) hx hb (show decode code 15 = .ok (.astore_n 2, 1) by decide +kernel) rfl hl1 (by decide) rfl (fun ls2 hl2 => ?_)
  refine lv_iconst hx hb (n := 0) (v := 0) (show decode code 16 = .ok (.iconst 0, 1) by decide +kernel) rfl ?_
  refine lv_istore_n (k := 3) hx hb (show decode code 17 = .ok (.istore_n 3, 1) by decide +kernel) rfl hl2 (by decide) rfl (fun ls3 hl3 => ?_)
  have hl4 : lw_L ls3 b ((cn_w s.heap.size D C).2.2.1 0) ((cn_w s.heap.size D C).2.2.1 1000) 0 := by
    show lv_has ls3 4 [(0, .ref b), (1, .ref (s.heap.size + cn_ix 0)), (2, .ref (s.heap.size + cn_ix 1000)), (3, .int (Int32.ofInt ((0 : Nat) : Int)))]
    rw [cn_ix0, cn_ixM]
    exact lv_sub hl3 [3, 2, 1, 0] rfl
  have Cx : lw_Cx p s m c b L xs (cn_w s.heap.size D C) := ⟨⟨hx, hb, hml, hown⟩, ht, hn, hK, cn_wsO, fun h => cn_wD, hX, hbl⟩
  refine lw_loop (w := cn_w s.heap.size D C) Cx hL ⟨cn_in (by decide +kernel), cn_in (by decide +kernel)⟩ (by decide) (fun H locs ls hS => ?_) 600 0 0 cn_h0 H4 locs4 ls3 (by omega) (by decide) (by decide) hl4 cn_ST0 cn_wfO (cn_world hS.1) hS.2
  refine lv_iconst hx hb (n := 1) (v := 1) (show decode code 1038 = .ok (.iconst 1, 1) by decide +kernel) rfl ?_
  refine va_forget (fun q hq => hS.2.2 q hq) ?_
  refine W.widen (k := 600000) (n := 7302250) (by decide) (by decide) ?_
  exact lw_ret hx hb hr hlocks (show decode code 1039 = .ok (.ireturn, 1) by decide +kernel)
end
