section
-- what makes the tokens
abbrev cn_y_Tokens : MethodName := ⟨"OpenGraves$Tokens", "<init>", "(LOpenGraves$Tape;)V"⟩
abbrev cn_c_Tokens : ByteArray := prog_11_method_1_code
theorem cn_l_Tokens : cn_Cl og_R_Tokens og_T_Tokens 10 2 og_ty_Tokens := ⟨rfl, og_in_Tokens, og_tyok_Tokens, og_nm_Tokens⟩
def cn_0_Tokens : List Value := [.null, .int 0, .int 0, .int 0, .int 0, .int 0, .int 0, .int 0, .int 0, .null]
def sg_E (a v z : Nat) (U : State) : Prop := vk_R "OpenGraves$Tokens" 23 sg_tx a U ∧ sg_F a v (fun q => z ≤ q) U
theorem sg_bE {a v z : Nat} : cn_bE (sg_E a v z) := fun a' U g mk h => ⟨vk_R.same (u := U) (U := U.calling g mk a') rfl h.1, sg_mv (s := U) (U := U.calling g mk a') rfl (Vm.Alike.refl U.vm) h.2⟩
theorem sg_nr {a v : Nat} {A : Nat → Prop} {U : State} (h : sg_F a v A U) : sg_F a v (fun _ => False) U := ⟨h.1.narrow (fun _ f => f.elim), h.2.1.narrow (fun _ f => f.elim), h.2.2.narrow (fun _ f => f.elim)⟩
def cn_F_Tok (z a1 : Nat) : List Value := [.ref a1, .int 0, .int 0, .int 0, .int 0, .int 0, .int 0, .int 0, .int (-1), .ref (z + 1)]
def cn_tW (C : Nat → ClassId) (z a1 i : Nat) : List va_E := [.inr (2, cn_F_Tok z a1), .inl (C 0, cn_a 0 31 (sg_sp i))]
def cn_X_Tokens (C : Nat → ClassId) (z a1 : Nat) : List va_E := [.inr (2, cn_F_Tok z a1), .inl (C 0, cn_a 0 31 spl)]
section
variable {p : Program} {l : Launch} {e : Env} {s : State} {m : MethodId} {args : Array Value} {below : List Frame} {meth : Method} {c : Code} {D : va_G} {C : Nat → ClassId} {z a1 a v : Nat}
set_option maxHeartbeats 400000 in
theorem cn_tokL (X : cn_Cx "OpenGraves$Tokens" cn_c_Tokens 5 p s m args c D C) (hr : meth.sig.returnType = none) (hlk : meth.locks = false) (hE : sg_E a v z s) : ∀ (k i : Nat) (H : Heap) (locs : List Loc) (ls : Array Slot), i + k = 186 → lv_has ls 5 [(2, .int (Int32.ofInt (i : Int))), (0, .ref z)] → cn_St D z (cn_tW C z a1 i) s.heap H locs → W p l e (cn_rm 5 1 31) s m args below meth c H locs 1 31 (MQ below (cn_Post D z (cn_X_Tokens C z a1)) args s 1 31 (fun q => z ≤ q)) (F0 m 24 ls []) := by
  have hwl : sg_wV "OpenGraves$Tokens" 25 sg_y_len prog_17_method_54_code 1 (some .int) := ⟨(og_mc1 182 rfl rfl), (og_mc1 183 rfl rfl), (og_mc1 184 rfl rfl), (og_mc1 7 rfl rfl), (og_mc1 185 rfl rfl)⟩
  have hwc : sg_wV "OpenGraves$Tokens" 31 sg_y_chr prog_17_method_56_code 2 (some .char) := ⟨(og_mc1 192 rfl rfl), (og_mc1 193 rfl rfl), (og_mc1 194 rfl rfl), (og_mc1 7 rfl rfl), (og_mc1 195 rfl rfl)⟩
  have F : CallFix p m c cn_c_Tokens 5 s args og_tbl "OpenGraves$Tokens" := ⟨X.1, X.2.1, X.2.2.1, X.2.2.2.1, X.2.2.2.2.1⟩
  intro k
  induction k with
  | zero =>
    intro i H locs ls hi hl hS
    have hi : i = 186 := by omega
    subst hi
    refine lv_iload_n X.1 X.2.1 (k := 2) (by decide +kernel) rfl (lv_at hl 0 rfl) ?_
    refine va_ldcS (index := 23) X.1 X.2.1 X.2.2.2.1 hE.1 (by decide +kernel) ?_
    refine va_calli (va_runV (As := []) (rest := [.int (Int32.ofInt ((186 : Nat) : Int))]) F (sg_len (a := a) (v := v)) (cwV 0 F.2.2.2.2 (sg_gV hwl) rfl rfl rfl ⟨rfl, by decide +kernel⟩ (by decide)) ⟨sg_bl, vk_recv (i := 0) hE.2.1 (by decide) hS.2, fun U hU hW => ⟨rfl, sg_nr (sg_kp hS.2 hU hW.alike hE.2)⟩⟩ rfl rfl hl.1 rfl (lv_room (by decide)) (show decode cn_c_Tokens 27 = .ok (.invokevirtual 25, 3) by decide +kernel) ⟨by decide, by decide⟩) hS.2 (fun q _ h => h.elim) (fun q h => h.elim) (fun r u t H1 locs1 ht _ hp _ hz hk hS1 => ?_)
    subst hp
    have hP1 : va_P D og_cl (cn_ws z (cn_tW C z a1 186)) H1 := hS.1.kept (fun k q hq => hk q.1 (hS.1 k q hq).lt (fun f => f))
    refine lv_icmp_ge X.1 X.2.1 (off := 63) (tgt := 93) (by decide +kernel) rfl (fun _ => ?_) (fun h => absurd (by decide) h)
    have hP2 : va_P D og_cl (cn_ws z (cn_X_Tokens C z a1)) H1 := by
      have := hP1
      unfold cn_tW at this
      rw [sg_sp_e] at this
      exact this
    exact cn_ret X hr hlk ⟨hP2, hS1⟩ (by decide +kernel)
  | succ k ih =>
    intro i H locs ls hi hl hS
    have i186 : i < 186 := by omega
    refine lv_iload_n X.1 X.2.1 (k := 2) (by decide +kernel) rfl (lv_at hl 0 rfl) ?_
    refine va_ldcS (index := 23) X.1 X.2.1 X.2.2.2.1 hE.1 (by decide +kernel) ?_
    refine va_calli (va_runV (As := []) (rest := [.int (Int32.ofInt (i : Int))]) F (sg_len (a := a) (v := v)) (cwV 0 F.2.2.2.2 (sg_gV hwl) rfl rfl rfl ⟨rfl, by decide +kernel⟩ (by decide)) ⟨sg_bl, vk_recv (i := 0) hE.2.1 (by decide) hS.2, fun U hU hW => ⟨rfl, sg_nr (sg_kp hS.2 hU hW.alike hE.2)⟩⟩ rfl rfl hl.1 rfl (lv_room (by show 1 + 0 ≤ 8; decide)) (show decode cn_c_Tokens 27 = .ok (.invokevirtual 25, 3) by decide +kernel) ⟨by decide, by decide⟩) hS.2 (fun q _ h => h.elim) (fun q h => h.elim) (fun r u t H1 locs1 ht _ hp _ hz hk hS1 => ?_)
    subst hp
    have hP1 : va_P D og_cl (cn_ws z (cn_tW C z a1 i)) H1 := hS.1.kept (fun k q hq => hk q.1 (hS.1 k q hq).lt (fun f => f))
    have no : ¬ (186 : Int32) ≤ Int32.ofInt (i : Int) := fun h => by
      have := Int32.le_iff_toInt_le.mp h
      rw [og_ti (by omega) (by omega)] at this
      have e : (186 : Int32).toInt = 186 := by decide
      omega
    refine lv_icmp_ge X.1 X.2.1 (off := 63) (tgt := 93) (by decide +kernel) rfl (fun h => absurd h no) (fun _ => ?_)
    refine lv_iload_n X.1 X.2.1 (k := 2) (by decide +kernel) rfl (lv_at hl 0 rfl) ?_
    refine lv_sipush X.1 X.2.1 (n := 186) (v := 186) (by decide +kernel) rfl ?_
    refine lv_icmp_ge X.1 X.2.1 (off := 56) (tgt := 93) (by decide +kernel) rfl (fun h => absurd h no) (fun _ => ?_)
    refine va_ldcS (index := 23) X.1 X.2.1 X.2.2.2.1 hE.1 (by decide +kernel) ?_
    refine lv_iload_n X.1 X.2.1 (k := 2) (by decide +kernel) rfl (lv_at hl 0 rfl) ?_
    refine va_calli (va_runV (As := [.int (Int32.ofInt (i : Int))]) (rest := []) F (sg_chr (a := a) (v := v) i186) (cwV 1 F.2.2.2.2 (sg_gV hwc) rfl rfl rfl ⟨rfl, by decide +kernel⟩ (by decide)) ⟨sg_bl, vk_recv (i := 0) hE.2.1 (by decide) hS1, fun U hU hW => ⟨rfl, sg_nr (sg_kp hS1 hU hW.alike hE.2)⟩⟩ rfl rfl hl.1 rfl (lv_room (by decide)) (show decode cn_c_Tokens 43 = .ok (.invokevirtual 31, 3) by decide +kernel) ⟨by decide, by decide⟩) hS1 (fun q _ h => h.elim) (fun q h => h.elim) (fun r u t H2 locs2 ht2 _ hp _ hz2 hk2 hS2 => ?_)
    subst hp
    have hP2 : va_P D og_cl (cn_ws z (cn_tW C z a1 i)) H2 := hP1.kept (fun k q hq => hk2 q.1 (hP1 k q hq).lt (fun f => f))
    refine lv_istore_n (k := 3) X.1 X.2.1 (by decide +kernel) rfl hl (by decide) rfl (fun ls1 hl1 => ?_)
    refine lv_iload_n X.1 X.2.1 (k := 2) (by decide +kernel) rfl (lv_at hl1 1 rfl) ?_
    refine lv_bipush X.1 X.2.1 (n := 6) (v := 6) (by decide +kernel) rfl ?_
    refine lv_idiv X.1 X.2.1 (by decide +kernel) (by decide) ?_
    rw [sg_dv i i186]
    refine lv_istore (i := 4) X.1 X.2.1 (by decide +kernel) hl1 (by decide) rfl (fun ls2 hl2 => ?_)
    have hg : ∀ {H3 : Heap} {locs3 : List Loc} {pc : Nat} {ls3 : Array Slot} {rest : List Value} {Q : State → Prop}, decode cn_c_Tokens pc = .ok (.getfield 19, 3) → va_P D og_cl (cn_ws z (cn_tW C z a1 i)) H3 → W p l e (cn_rm 5 1 31) s m args below meth c H3 locs3 1 31 Q (F0 m (pc + 3) ls3 (.ref (z + 1) :: rest)) → W p l e (cn_rm 5 1 31) s m args below meth c H3 locs3 1 31 Q (F0 m pc ls3 (.ref z :: rest)) := fun hd hP3 kk =>
      va_get (own := "OpenGraves$Tokens") (ref := "OpenGraves$Tokens") (index := 19) (v := .ref (z + 1)) X.1 X.2.1 X.2.2.2.2.1 cn_l_Tokens.2.1 X.2.2.2.1 X.2.2.2.2.2 hP3 0 (cn_at (k := 0) rfl) cn_l_Tokens.1 9 (by decide) (X.2.2.2.2.1 _ (og_mc2 7 rfl rfl)) (fun _ h => h) rfl hd kk
    refine lv_aload_n X.1 X.2.1 (k := 0) (by decide +kernel) rfl (lv_at hl2 3 rfl) ?_
    refine hg (by decide +kernel) hP2 ?_
    refine lv_iload (i := 4) X.1 X.2.1 (by decide +kernel) (lv_at hl2 0 rfl) ?_
    refine lv_bipush X.1 X.2.1 (n := 27) (v := 27) (by decide +kernel) rfl ?_
    refine lv_aload_n X.1 X.2.1 (k := 0) (by decide +kernel) rfl (lv_at hl2 3 rfl) ?_
    refine hg (by decide +kernel) hP2 ?_
    refine lv_iload (i := 4) X.1 X.2.1 (by decide +kernel) (lv_at hl2 0 rfl) ?_
    refine va_iald X.1 X.2.1 X.2.2.2.2.2 hP2 1 0 (n := 31) (f := fun k => Int32.ofInt ((sg_sp i).getD k 0)) (cn_at (k := 1) rfl) rfl (og_vpin (by omega) (by omega) (by omega)) (by decide +kernel) ?_
    rw [og_clamp (by omega) (by omega), Int.toNat_natCast]
    refine lv_imul X.1 X.2.1 (by decide +kernel) ?_
    refine lv_iload_n X.1 X.2.1 (k := 3) (by decide +kernel) rfl (lv_at hl2 1 rfl) ?_
    refine lv_bipush X.1 X.2.1 (n := 32) (v := 32) (by decide +kernel) rfl ?_
    have fin : W p l e (cn_rm 5 1 31) s m args below meth c H2 locs2 1 31 (MQ below (cn_Post D z (cn_X_Tokens C z a1)) args s 1 31 (fun q => z ≤ q)) (F0 m 85 ls2 [.int (Int32.ofInt (sg_vl i)), .int (27 * Int32.ofInt ((sg_sp i).getD (i / 6) 0)), .int (Int32.ofInt ((i / 6 : Nat) : Int)), .ref (z + 1)]) := by
      refine lv_iadd X.1 X.2.1 (by decide +kernel) ?_
      have e27 : (27 : Int32) * Int32.ofInt ((sg_sp i).getD (i / 6) 0) + Int32.ofInt (sg_vl i) = Int32.ofInt (27 * (sg_sp i).getD (i / 6) 0 + sg_vl i) := by rw [Int32.ofInt_add, Int32.ofInt_mul]; rfl
      rw [e27]
      refine va_iast X.1 X.2.1 X.2.2.2.2.2 hP2 cn_D hS2 1 0 (n := 31) (f := fun k => Int32.ofInt ((sg_sp i).getD k 0)) (cn_at (k := 1) rfl) rfl (og_vpin (by omega) (by omega) (by omega)) (by decide +kernel) (fun H3 locs3 hP3 _ hS3 => ?_)
      rw [cn_set, og_clamp (by omega) (by omega), Int.toNat_natCast, sg_up (by rw [sg_sp_len]; omega), sg_sp_s i186] at hP3
      refine lv_iinc (i := 2) (n := 1) (k := 2) X.1 X.2.1 (by decide +kernel) hl2 rfl (v := Int32.ofInt ((i + 1 : Nat) : Int)) (by rw [← Int32.ofInt_add]; congr 1) (by decide) rfl (fun ls3 hl3 => ?_)
      refine lv_goto X.1 X.2.1 (off := -66) (tgt := 24) (by decide +kernel) rfl ?_
      exact ih (i + 1) H3 locs3 ls3 (by omega) (lv_sub hl3 [0, 3] rfl) ⟨hP3, hS3⟩
    refine lv_icmp_ne X.1 X.2.1 (off := 7) (tgt := 79) (by decide +kernel) rfl (fun h => ?_) (fun h => ?_)
    · refine lv_iload_n X.1 X.2.1 (k := 3) (by decide +kernel) rfl (lv_at hl2 1 rfl) ?_
      refine lv_bipush X.1 X.2.1 (n := 97) (v := 97) (by decide +kernel) rfl ?_
      refine lv_isub X.1 X.2.1 (by decide +kernel) ?_
      refine lv_iconst X.1 X.2.1 (n := 1) (v := 1) (by decide +kernel) rfl ?_
      refine lv_iadd X.1 X.2.1 (by decide +kernel) ?_
      rw [sg_va i i186 h]
      exact fin
    · refine lv_iconst X.1 X.2.1 (n := 0) (v := 0) (by decide +kernel) rfl ?_
      refine lv_goto X.1 X.2.1 (off := 9) (tgt := 85) (by decide +kernel) rfl ?_
      have e : sg_vl i = 0 := by unfold sg_vl; rw [if_pos h]
      rw [e] at fin
      exact fin
end
end
