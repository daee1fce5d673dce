abbrev og_c_Script_addNumber : ByteArray := prog_9_method_6_code
abbrev og_y_Script_addNumber : MethodName := ⟨"OpenGraves$Script", "addNumber", "(I)V"⟩
theorem v_Script_addNumber {own : String} {idx dep : Nat} (h : 1 + 1 ≤ dep) : og_sV own idx og_y_Script_addNumber og_c_Script_addNumber 2 2 1 dep 11 1 := ⟨⟨10, og_sl_Script, og_T_Script, 4, rfl, by decide, rfl⟩, og_w601, og_w602, og_w4, og_w603, ⟨by decide +kernel, by decide +kernel, by decide +kernel⟩, h, by decide⟩
theorem d_Script_addNumber_0 : decode og_c_Script_addNumber 0 = .ok (.aload_n 0, 1) := by decide +kernel
theorem d_Script_addNumber_1 : decode og_c_Script_addNumber 1 = .ok (.getfield 21, 3) := by decide +kernel
theorem d_Script_addNumber_4 : decode og_c_Script_addNumber 4 = .ok (.aload_n 0, 1) := by decide +kernel
theorem d_Script_addNumber_5 : decode og_c_Script_addNumber 5 = .ok (.getfield 11, 3) := by decide +kernel
theorem d_Script_addNumber_8 : decode og_c_Script_addNumber 8 = .ok (.arraylength, 1) := by decide +kernel
theorem d_Script_addNumber_9 : decode og_c_Script_addNumber 9 = .ok (.if_icmp .ge 23, 3) := by decide +kernel
theorem d_Script_addNumber_12 : decode og_c_Script_addNumber 12 = .ok (.aload_n 0, 1) := by decide +kernel
theorem d_Script_addNumber_13 : decode og_c_Script_addNumber 13 = .ok (.getfield 11, 3) := by decide +kernel
theorem d_Script_addNumber_16 : decode og_c_Script_addNumber 16 = .ok (.aload_n 0, 1) := by decide +kernel
theorem d_Script_addNumber_17 : decode og_c_Script_addNumber 17 = .ok (.getfield 21, 3) := by decide +kernel
theorem d_Script_addNumber_20 : decode og_c_Script_addNumber 20 = .ok (.iload_n 1, 1) := by decide +kernel
theorem d_Script_addNumber_21 : decode og_c_Script_addNumber 21 = .ok (.iastore, 1) := by decide +kernel
theorem d_Script_addNumber_22 : decode og_c_Script_addNumber 22 = .ok (.aload_n 0, 1) := by decide +kernel
theorem d_Script_addNumber_23 : decode og_c_Script_addNumber 23 = .ok (.dup, 1) := by decide +kernel
theorem d_Script_addNumber_24 : decode og_c_Script_addNumber 24 = .ok (.getfield 21, 3) := by decide +kernel
theorem d_Script_addNumber_27 : decode og_c_Script_addNumber 27 = .ok (.iconst 1, 1) := by decide +kernel
theorem d_Script_addNumber_28 : decode og_c_Script_addNumber 28 = .ok (.iadd, 1) := by decide +kernel
theorem d_Script_addNumber_29 : decode og_c_Script_addNumber 29 = .ok (.putfield 21, 3) := by decide +kernel
theorem d_Script_addNumber_32 : decode og_c_Script_addNumber 32 = .ok (.return_, 1) := by decide +kernel
def m_Script_addNumber : og_Dn := og_den [15, 0] 2 2 (og_if (og_cc og_rlt (og_get 3 (og_loc 0)) (og_len 1620 (og_fix (fun i => i + 1) (og_loc 0)))) (og_seq (og_ast 1620 (og_fix (fun i => i + 1) (og_loc 0)) (og_get 3 (og_loc 0)) (og_loc 1)) (og_pop32 og_padd 3 (og_loc 0) (og_k 1))) (og_skip))
set_option maxRecDepth 20000 in
theorem ok_Script_addNumber : og_MOK og_y_Script_addNumber og_c_Script_addNumber 2 2 1 [15, 0] m_Script_addNumber := og_method (b := 32) (lt' := [(0, 15), (1, 0)]) (by decide +kernel) (by decide) (by decide) (og_sif (T := 12) (F := 32) (og_ccn og_n_lt (og_ige (tgt := 32) (og_f_Script_size (og_aload_n (i := 0) (t := 13) (j := 0) (by rfl) (by rfl) d_Script_addNumber_0) og_w137 d_Script_addNumber_1) (og_alen (N := 1620) (et := 0) (og_f_Script_cells (og_aload_n (i := 0) (t := 13) (j := 0) (by rfl) (by rfl) d_Script_addNumber_4) og_w131 d_Script_addNumber_5) (by rfl) (by decide) d_Script_addNumber_8) d_Script_addNumber_9 (by decide))) (og_sseq (og_iastore (N := 1620) (og_f_Script_cells (og_aload_n (i := 0) (t := 13) (j := 0) (by rfl) (by rfl) d_Script_addNumber_12) og_w131 d_Script_addNumber_13) (by rfl) (og_f_Script_size (og_aload_n (i := 0) (t := 13) (j := 0) (by rfl) (by rfl) d_Script_addNumber_16) og_w137 d_Script_addNumber_17) (og_iload_n (i := 1) (j := 1) (by rfl) (by rfl) d_Script_addNumber_20) d_Script_addNumber_21) (og_qadd_Script_size (og_aload_n (i := 0) (t := 13) (j := 0) (by rfl) (by rfl) d_Script_addNumber_22) d_Script_addNumber_23 d_Script_addNumber_24 (og_iconst (by decide) d_Script_addNumber_27) d_Script_addNumber_28 og_w137 d_Script_addNumber_29)) (og_sskip)) (fun _ => d_Script_addNumber_32)
abbrev og_c_Script_addDeed : ByteArray := prog_9_method_7_code
abbrev og_y_Script_addDeed : MethodName := ⟨"OpenGraves$Script", "addDeed", "(I)V"⟩
theorem v_Script_addDeed {own : String} {idx dep : Nat} (h : 2 + 1 ≤ dep) : og_sV own idx og_y_Script_addDeed og_c_Script_addDeed 2 2 2 dep 11 1 := ⟨⟨10, og_sl_Script, og_T_Script, 4, rfl, by decide, rfl⟩, og_w597, og_w598, og_w4, og_w599, ⟨by decide +kernel, by decide +kernel, by decide +kernel⟩, h, by decide⟩
theorem d_Script_addDeed_0 : decode og_c_Script_addDeed 0 = .ok (.aload_n 0, 1) := by decide +kernel
theorem d_Script_addDeed_1 : decode og_c_Script_addDeed 1 = .ok (.iconst (-1), 1) := by decide +kernel
theorem d_Script_addDeed_2 : decode og_c_Script_addDeed 2 = .ok (.iload_n 1, 1) := by decide +kernel
theorem d_Script_addDeed_3 : decode og_c_Script_addDeed 3 = .ok (.isub, 1) := by decide +kernel
theorem d_Script_addDeed_4 : decode og_c_Script_addDeed 4 = .ok (.invokevirtual 25, 3) := by decide +kernel
theorem d_Script_addDeed_7 : decode og_c_Script_addDeed 7 = .ok (.return_, 1) := by decide +kernel
def m_Script_addDeed : og_Dn := og_den [15, 0] 2 2 (og_exp (og_call m_Script_addNumber [og_loc 0, og_sub (og_k (-1)) (og_loc 1)]))
set_option maxRecDepth 20000 in
theorem ok_Script_addDeed : og_MOK og_y_Script_addDeed og_c_Script_addDeed 2 2 2 [15, 0] m_Script_addDeed := og_method (b := 7) (lt' := [(0, 15), (1, 0)]) (by decide +kernel) (by decide) (by decide) (og_callVv (og_acons (og_aload_n (i := 0) (t := 13) (j := 0) (by rfl) (by rfl) d_Script_addDeed_0) (og_acons (og_isub (og_iconst (by decide) d_Script_addDeed_1) (og_iload_n (i := 1) (j := 1) (by rfl) (by rfl) d_Script_addDeed_2) d_Script_addDeed_3) (og_anil))) ok_Script_addNumber (v_Script_addNumber (by decide)) og_w600 d_Script_addDeed_4) (fun _ => d_Script_addDeed_7)
abbrev og_c_Grammar_opens : ByteArray := prog_3_method_12_code
abbrev og_y_Grammar_opens : MethodName := ⟨"OpenGraves$Grammar", "opens", "(I)Z"⟩
theorem v_Grammar_opens {own : String} {idx dep : Nat} (h : 4 + 1 ≤ dep) : og_sV own idx og_y_Grammar_opens og_c_Grammar_opens 2 3 4 dep 4 1 := ⟨⟨3, og_sl_Grammar, og_T_Grammar, 3, rfl, by decide, rfl⟩, og_w592, (og_memP (⟨"OpenGraves$Grammar", "opens", "(I)Z"⟩, 3) (List.mem_of_getElem? (i := 13) (by decide +kernel))), og_w11, og_w593, ⟨by decide +kernel, by decide +kernel, by decide +kernel⟩, h, by decide⟩
theorem d_Grammar_opens_0 : decode og_c_Grammar_opens 0 = .ok (.iload_n 1, 1) := by decide +kernel
theorem d_Grammar_opens_1 : decode og_c_Grammar_opens 1 = .ok (.bipush 6, 2) := by decide +kernel
theorem d_Grammar_opens_3 : decode og_c_Grammar_opens 3 = .ok (.if_icmp .lt 13, 3) := by decide +kernel
theorem d_Grammar_opens_6 : decode og_c_Grammar_opens 6 = .ok (.aload_n 0, 1) := by decide +kernel
theorem d_Grammar_opens_7 : decode og_c_Grammar_opens 7 = .ok (.getfield 9, 3) := by decide +kernel
theorem d_Grammar_opens_10 : decode og_c_Grammar_opens 10 = .ok (.iconst 4, 1) := by decide +kernel
theorem d_Grammar_opens_11 : decode og_c_Grammar_opens 11 = .ok (.invokevirtual 33, 3) := by decide +kernel
theorem d_Grammar_opens_14 : decode og_c_Grammar_opens 14 = .ok (.iconst 0, 1) := by decide +kernel
theorem d_Grammar_opens_15 : decode og_c_Grammar_opens 15 = .ok (.ireturn, 1) := by decide +kernel
theorem d_Grammar_opens_16 : decode og_c_Grammar_opens 16 = .ok (.aload_n 0, 1) := by decide +kernel
theorem d_Grammar_opens_17 : decode og_c_Grammar_opens 17 = .ok (.getfield 9, 3) := by decide +kernel
theorem d_Grammar_opens_20 : decode og_c_Grammar_opens 20 = .ok (.invokevirtual 37, 3) := by decide +kernel
theorem d_Grammar_opens_23 : decode og_c_Grammar_opens 23 = .ok (.iconst 1, 1) := by decide +kernel
theorem d_Grammar_opens_24 : decode og_c_Grammar_opens 24 = .ok (.ireturn, 1) := by decide +kernel
def m_Grammar_opens : og_Dn := og_den [8, 0] 2 3 (og_seq (og_if (og_cc og_rge (og_loc 1) (og_k 6)) (og_seq (og_exp (og_call m_Tokens_fail [og_fix (fun _ => 3) (og_loc 0), og_k 4])) (og_retz (og_k 0))) (og_skip)) (og_seq (og_exp (og_call m_Tokens_step [og_fix (fun _ => 3) (og_loc 0)])) (og_retz (og_k 1))))
set_option maxRecDepth 20000 in
theorem ok_Grammar_opens : og_MOK og_y_Grammar_opens og_c_Grammar_opens 2 3 4 [8, 0] m_Grammar_opens := og_method (b := 0) (lt' := []) (by decide +kernel) (by decide) (by decide) (og_sseq (og_sif (T := 6) (F := 16) (og_ccn og_n_ge (og_ilt (tgt := 16) (og_iload_n (i := 1) (j := 1) (by rfl) (by rfl) d_Grammar_opens_0) (og_bipush (by decide) d_Grammar_opens_1) d_Grammar_opens_3 (by decide))) (og_sseq (og_callVv (og_acons (og_f_Grammar_tokens (og_aload_n (i := 0) (t := 6) (j := 0) (by rfl) (by rfl) d_Grammar_opens_6) og_w276 d_Grammar_opens_7) (og_acons (og_iconst (by decide) d_Grammar_opens_10) (og_anil))) ok_Tokens_fail (v_Tokens_fail (by decide)) og_w594 d_Grammar_opens_11) (og_sretz (og_iconst (by decide) d_Grammar_opens_14) d_Grammar_opens_15)) (og_sskip)) (og_sseq (og_callVv (og_acons (og_f_Grammar_tokens (og_aload_n (i := 0) (t := 6) (j := 0) (by rfl) (by rfl) d_Grammar_opens_16) og_w276 d_Grammar_opens_17) (og_anil)) ok_Tokens_step (v_Tokens_step (by decide)) og_w595 d_Grammar_opens_20) (og_sretz (og_iconst (by decide) d_Grammar_opens_23) d_Grammar_opens_24))) (fun h => by cases h)
abbrev og_c_Tokens_isSign : ByteArray := prog_11_method_14_code
abbrev og_y_Tokens_isSign : MethodName := ⟨"OpenGraves$Tokens", "isSign", "(I)Z"⟩
theorem v_Tokens_isSign {own : String} {idx dep : Nat} (h : 1 + 1 ≤ dep) : og_sV own idx og_y_Tokens_isSign og_c_Tokens_isSign 2 3 1 dep 3 1 := ⟨⟨2, og_sl_Tokens, og_T_Tokens, 10, rfl, by decide, rfl⟩, og_w605, og_w606, og_w6, og_w607, ⟨by decide +kernel, by decide +kernel, by decide +kernel⟩, h, by decide⟩
theorem d_Tokens_isSign_0 : decode og_c_Tokens_isSign 0 = .ok (.aload_n 0, 1) := by decide +kernel
theorem d_Tokens_isSign_1 : decode og_c_Tokens_isSign 1 = .ok (.getfield 59, 3) := by decide +kernel
theorem d_Tokens_isSign_4 : decode og_c_Tokens_isSign 4 = .ok (.iconst 3, 1) := by decide +kernel
theorem d_Tokens_isSign_5 : decode og_c_Tokens_isSign 5 = .ok (.if_icmp .ne 15, 3) := by decide +kernel
theorem d_Tokens_isSign_8 : decode og_c_Tokens_isSign 8 = .ok (.aload_n 0, 1) := by decide +kernel
theorem d_Tokens_isSign_9 : decode og_c_Tokens_isSign 9 = .ok (.getfield 74, 3) := by decide +kernel
theorem d_Tokens_isSign_12 : decode og_c_Tokens_isSign 12 = .ok (.iload_n 1, 1) := by decide +kernel
theorem d_Tokens_isSign_13 : decode og_c_Tokens_isSign 13 = .ok (.if_icmp .ne 7, 3) := by decide +kernel
theorem d_Tokens_isSign_16 : decode og_c_Tokens_isSign 16 = .ok (.iconst 1, 1) := by decide +kernel
theorem d_Tokens_isSign_17 : decode og_c_Tokens_isSign 17 = .ok (.goto 4, 3) := by decide +kernel
theorem d_Tokens_isSign_20 : decode og_c_Tokens_isSign 20 = .ok (.iconst 0, 1) := by decide +kernel
theorem d_Tokens_isSign_21 : decode og_c_Tokens_isSign 21 = .ok (.ireturn, 1) := by decide +kernel
def m_Tokens_isSign : og_Dn := og_den [7, 0] 2 3 (og_retz (og_ec (og_and (og_cc og_req (og_get 2 (og_loc 0)) (og_k 3)) (og_cc og_req (og_get 5 (og_loc 0)) (og_loc 1)))))
set_option maxRecDepth 20000 in
theorem ok_Tokens_isSign : og_MOK og_y_Tokens_isSign og_c_Tokens_isSign 2 3 1 [7, 0] m_Tokens_isSign := og_method (b := 0) (lt' := []) (by decide +kernel) (by decide) (by decide) (og_sretz (og_econd (b := 0) (og_cand (og_ccn og_n_eq (og_ine (tgt := 20) (og_f_Tokens_kind (og_aload_n (i := 0) (t := 5) (j := 0) (by rfl) (by rfl) d_Tokens_isSign_0) og_w232 d_Tokens_isSign_1) (og_iconst (by decide) d_Tokens_isSign_4) d_Tokens_isSign_5 (by decide))) (og_ccn og_n_eq (og_ine (tgt := 20) (og_f_Tokens_value (og_aload_n (i := 0) (t := 5) (j := 0) (by rfl) (by rfl) d_Tokens_isSign_8) og_w237 d_Tokens_isSign_9) (og_iload_n (i := 1) (j := 1) (by rfl) (by rfl) d_Tokens_isSign_12) d_Tokens_isSign_13 (by decide)))) d_Tokens_isSign_16 d_Tokens_isSign_17 (by decide) d_Tokens_isSign_20 (by rfl)) d_Tokens_isSign_21) (fun h => by cases h)
abbrev og_c_Tokens_takeSign : ByteArray := prog_11_method_19_code
abbrev og_y_Tokens_takeSign : MethodName := ⟨"OpenGraves$Tokens", "takeSign", "(I)V"⟩
theorem v_Tokens_takeSign {own : String} {idx dep : Nat} (h : 4 + 1 ≤ dep) : og_sV own idx og_y_Tokens_takeSign og_c_Tokens_takeSign 2 2 4 dep 3 1 := ⟨⟨2, og_sl_Tokens, og_T_Tokens, 10, rfl, by decide, rfl⟩, og_w609, og_w610, og_w6, og_w611, ⟨by decide +kernel, by decide +kernel, by decide +kernel⟩, h, by decide⟩
theorem d_Tokens_takeSign_0 : decode og_c_Tokens_takeSign 0 = .ok (.aload_n 0, 1) := by decide +kernel
theorem d_Tokens_takeSign_1 : decode og_c_Tokens_takeSign 1 = .ok (.iload_n 1, 1) := by decide +kernel
theorem d_Tokens_takeSign_2 : decode og_c_Tokens_takeSign 2 = .ok (.invokevirtual 95, 3) := by decide +kernel
theorem d_Tokens_takeSign_5 : decode og_c_Tokens_takeSign 5 = .ok (.ifCond .eq 10, 3) := by decide +kernel
theorem d_Tokens_takeSign_8 : decode og_c_Tokens_takeSign 8 = .ok (.aload_n 0, 1) := by decide +kernel
theorem d_Tokens_takeSign_9 : decode og_c_Tokens_takeSign 9 = .ok (.invokevirtual 41, 3) := by decide +kernel
theorem d_Tokens_takeSign_12 : decode og_c_Tokens_takeSign 12 = .ok (.goto 8, 3) := by decide +kernel
theorem d_Tokens_takeSign_15 : decode og_c_Tokens_takeSign 15 = .ok (.aload_n 0, 1) := by decide +kernel
theorem d_Tokens_takeSign_16 : decode og_c_Tokens_takeSign 16 = .ok (.iconst 1, 1) := by decide +kernel
theorem d_Tokens_takeSign_17 : decode og_c_Tokens_takeSign 17 = .ok (.invokevirtual 91, 3) := by decide +kernel
theorem d_Tokens_takeSign_20 : decode og_c_Tokens_takeSign 20 = .ok (.return_, 1) := by decide +kernel
def m_Tokens_takeSign : og_Dn := og_den [7, 0] 2 2 (og_if (og_cb (og_call m_Tokens_isSign [og_loc 0, og_loc 1])) (og_exp (og_call m_Tokens_step [og_loc 0])) (og_exp (og_call m_Tokens_fail [og_loc 0, og_k 1])))
set_option maxRecDepth 20000 in
theorem ok_Tokens_takeSign : og_MOK og_y_Tokens_takeSign og_c_Tokens_takeSign 2 2 4 [7, 0] m_Tokens_takeSign := og_method (b := 20) (lt' := [(0, 7), (1, 0)]) (by decide +kernel) (by decide) (by decide) (og_sif (T := 8) (F := 15) (og_cbeq (tgt := 15) (og_callVz (og_acons (og_aload_n (i := 0) (t := 5) (j := 0) (by rfl) (by rfl) d_Tokens_takeSign_0) (og_acons (og_iload_n (i := 1) (j := 1) (by rfl) (by rfl) d_Tokens_takeSign_1) (og_anil))) (by decide) ok_Tokens_isSign (v_Tokens_isSign (by decide)) og_w612 d_Tokens_takeSign_2) d_Tokens_takeSign_5 (by decide)) (og_gS (b' := 20) (og_callVv (og_acons (og_aload_n (i := 0) (t := 5) (j := 0) (by rfl) (by rfl) d_Tokens_takeSign_8) (og_anil)) ok_Tokens_step (v_Tokens_step (by decide)) og_w477 d_Tokens_takeSign_9) d_Tokens_takeSign_12 (by decide)) (og_callVv (og_acons (og_aload_n (i := 0) (t := 5) (j := 0) (by rfl) (by rfl) d_Tokens_takeSign_15) (og_acons (og_iconst (by decide) d_Tokens_takeSign_16) (og_anil))) ok_Tokens_fail (v_Tokens_fail (by decide)) og_w560 d_Tokens_takeSign_17)) (fun _ => d_Tokens_takeSign_20)
abbrev og_c_Tokens_isNumber : ByteArray := prog_11_method_13_code
abbrev og_y_Tokens_isNumber : MethodName := ⟨"OpenGraves$Tokens", "isNumber", "()Z"⟩
theorem v_Tokens_isNumber {own : String} {idx dep : Nat} (h : 1 + 1 ≤ dep) : og_sV own idx og_y_Tokens_isNumber og_c_Tokens_isNumber 1 3 1 dep 3 0 := ⟨⟨2, og_sl_Tokens, og_T_Tokens, 10, rfl, by decide, rfl⟩, og_w632, og_w633, og_w6, og_w634, ⟨by decide +kernel, by decide +kernel, by decide +kernel⟩, h, by decide⟩
theorem d_Tokens_isNumber_0 : decode og_c_Tokens_isNumber 0 = .ok (.aload_n 0, 1) := by decide +kernel
theorem d_Tokens_isNumber_1 : decode og_c_Tokens_isNumber 1 = .ok (.getfield 59, 3) := by decide +kernel
theorem d_Tokens_isNumber_4 : decode og_c_Tokens_isNumber 4 = .ok (.iconst 2, 1) := by decide +kernel
theorem d_Tokens_isNumber_5 : decode og_c_Tokens_isNumber 5 = .ok (.if_icmp .ne 7, 3) := by decide +kernel
theorem d_Tokens_isNumber_8 : decode og_c_Tokens_isNumber 8 = .ok (.iconst 1, 1) := by decide +kernel
theorem d_Tokens_isNumber_9 : decode og_c_Tokens_isNumber 9 = .ok (.goto 4, 3) := by decide +kernel
theorem d_Tokens_isNumber_12 : decode og_c_Tokens_isNumber 12 = .ok (.iconst 0, 1) := by decide +kernel
theorem d_Tokens_isNumber_13 : decode og_c_Tokens_isNumber 13 = .ok (.ireturn, 1) := by decide +kernel
def m_Tokens_isNumber : og_Dn := og_den [7] 1 3 (og_retz (og_ec (og_cc og_req (og_get 2 (og_loc 0)) (og_k 2))))
set_option maxRecDepth 20000 in
theorem ok_Tokens_isNumber : og_MOK og_y_Tokens_isNumber og_c_Tokens_isNumber 1 3 1 [7] m_Tokens_isNumber := og_method (b := 0) (lt' := []) (by decide +kernel) (by decide) (by decide) (og_sretz (og_econd (b := 0) (og_ccn og_n_eq (og_ine (tgt := 12) (og_f_Tokens_kind (og_aload_n (i := 0) (t := 5) (j := 0) (by rfl) (by rfl) d_Tokens_isNumber_0) og_w232 d_Tokens_isNumber_1) (og_iconst (by decide) d_Tokens_isNumber_4) d_Tokens_isNumber_5 (by decide))) d_Tokens_isNumber_8 d_Tokens_isNumber_9 (by decide) d_Tokens_isNumber_12 (by rfl)) d_Tokens_isNumber_13) (fun h => by cases h)
abbrev og_c_Grammar_isKnown : ByteArray := prog_3_method_13_code
abbrev og_y_Grammar_isKnown : MethodName := ⟨"OpenGraves$Grammar", "isKnown", "(I)Z"⟩
theorem v_Grammar_isKnown {own : String} {idx dep : Nat} (h : 1 + 1 ≤ dep) : og_sV own idx og_y_Grammar_isKnown og_c_Grammar_isKnown 2 3 1 dep 4 1 := ⟨⟨3, og_sl_Grammar, og_T_Grammar, 3, rfl, by decide, rfl⟩, og_w642, (og_memP (⟨"OpenGraves$Grammar", "isKnown", "(I)Z"⟩, 3) (List.mem_of_getElem? (i := 19) (by decide +kernel))), og_w11, og_w643, ⟨by decide +kernel, by decide +kernel, by decide +kernel⟩, h, by decide⟩
theorem d_Grammar_isKnown_0 : decode og_c_Grammar_isKnown 0 = .ok (.iload_n 1, 1) := by decide +kernel
theorem d_Grammar_isKnown_1 : decode og_c_Grammar_isKnown 1 = .ok (.tableswitch 114 5 17 #[67, 67, 67, 114, 114, 114, 114, 114, 67, 69, 84, 99, 99], 67) := by decide +kernel
theorem d_Grammar_isKnown_68 : decode og_c_Grammar_isKnown 68 = .ok (.iconst 1, 1) := by decide +kernel
theorem d_Grammar_isKnown_69 : decode og_c_Grammar_isKnown 69 = .ok (.ireturn, 1) := by decide +kernel
theorem d_Grammar_isKnown_70 : decode og_c_Grammar_isKnown 70 = .ok (.aload_n 0, 1) := by decide +kernel
theorem d_Grammar_isKnown_71 : decode og_c_Grammar_isKnown 71 = .ok (.getfield 52, 3) := by decide +kernel
theorem d_Grammar_isKnown_74 : decode og_c_Grammar_isKnown 74 = .ok (.bipush 9, 2) := by decide +kernel
theorem d_Grammar_isKnown_76 : decode og_c_Grammar_isKnown 76 = .ok (.if_icmp .ne 7, 3) := by decide +kernel
theorem d_Grammar_isKnown_79 : decode og_c_Grammar_isKnown 79 = .ok (.iconst 1, 1) := by decide +kernel
theorem d_Grammar_isKnown_80 : decode og_c_Grammar_isKnown 80 = .ok (.goto 4, 3) := by decide +kernel
theorem d_Grammar_isKnown_83 : decode og_c_Grammar_isKnown 83 = .ok (.iconst 0, 1) := by decide +kernel
theorem d_Grammar_isKnown_84 : decode og_c_Grammar_isKnown 84 = .ok (.ireturn, 1) := by decide +kernel
theorem d_Grammar_isKnown_85 : decode og_c_Grammar_isKnown 85 = .ok (.aload_n 0, 1) := by decide +kernel
theorem d_Grammar_isKnown_86 : decode og_c_Grammar_isKnown 86 = .ok (.getfield 52, 3) := by decide +kernel
theorem d_Grammar_isKnown_89 : decode og_c_Grammar_isKnown 89 = .ok (.bipush 11, 2) := by decide +kernel
theorem d_Grammar_isKnown_91 : decode og_c_Grammar_isKnown 91 = .ok (.if_icmp .ne 7, 3) := by decide +kernel
theorem d_Grammar_isKnown_94 : decode og_c_Grammar_isKnown 94 = .ok (.iconst 1, 1) := by decide +kernel
theorem d_Grammar_isKnown_95 : decode og_c_Grammar_isKnown 95 = .ok (.goto 4, 3) := by decide +kernel
theorem d_Grammar_isKnown_98 : decode og_c_Grammar_isKnown 98 = .ok (.iconst 0, 1) := by decide +kernel
theorem d_Grammar_isKnown_99 : decode og_c_Grammar_isKnown 99 = .ok (.ireturn, 1) := by decide +kernel
theorem d_Grammar_isKnown_100 : decode og_c_Grammar_isKnown 100 = .ok (.aload_n 0, 1) := by decide +kernel
theorem d_Grammar_isKnown_101 : decode og_c_Grammar_isKnown 101 = .ok (.getfield 52, 3) := by decide +kernel
theorem d_Grammar_isKnown_104 : decode og_c_Grammar_isKnown 104 = .ok (.bipush 13, 2) := by decide +kernel
theorem d_Grammar_isKnown_106 : decode og_c_Grammar_isKnown 106 = .ok (.if_icmp .ne 7, 3) := by decide +kernel
theorem d_Grammar_isKnown_109 : decode og_c_Grammar_isKnown 109 = .ok (.iconst 1, 1) := by decide +kernel
theorem d_Grammar_isKnown_110 : decode og_c_Grammar_isKnown 110 = .ok (.goto 4, 3) := by decide +kernel
theorem d_Grammar_isKnown_113 : decode og_c_Grammar_isKnown 113 = .ok (.iconst 0, 1) := by decide +kernel
theorem d_Grammar_isKnown_114 : decode og_c_Grammar_isKnown 114 = .ok (.ireturn, 1) := by decide +kernel
theorem d_Grammar_isKnown_115 : decode og_c_Grammar_isKnown 115 = .ok (.iconst 0, 1) := by decide +kernel
theorem d_Grammar_isKnown_116 : decode og_c_Grammar_isKnown 116 = .ok (.ireturn, 1) := by decide +kernel
def m_Grammar_isKnown : og_Dn := og_den [8, 0] 2 3 (og_sw (og_loc 1) (fun x => og_cs x [6, 5, 7, 13] (og_retz (og_k 1)) (og_cs x [14] (og_retz (og_ec (og_cc og_req (og_get 2 (og_loc 0)) (og_k 9)))) (og_cs x [15] (og_retz (og_ec (og_cc og_req (og_get 2 (og_loc 0)) (og_k 11)))) (og_cs x [16, 17] (og_retz (og_ec (og_cc og_req (og_get 2 (og_loc 0)) (og_k 13)))) (og_retz (og_k 0)))))))
set_option maxRecDepth 20000 in
theorem ok_Grammar_isKnown : og_MOK og_y_Grammar_isKnown og_c_Grammar_isKnown 2 3 1 [8, 0] m_Grammar_isKnown := og_method (b := 0) (lt' := []) (by decide +kernel) (by decide) (by decide) (og_stab (b1 := 0) (d := 115) (cs := [(6, 68), (5, 68), (7, 68), (13, 68), (14, 70), (15, 85), (16, 100), (17, 100)]) (og_iload_n (i := 1) (j := 1) (by rfl) (by rfl) d_Grammar_isKnown_0) d_Grammar_isKnown_1 (by decide) (by decide) (fun x => og_scs (fun hx => og_sat (by simp at hx; rcases hx with rfl | rfl | rfl | rfl <;> rfl) (og_sretz (og_iconst (by decide) d_Grammar_isKnown_68) d_Grammar_isKnown_69)) (fun hx => og_scs (fun hx => og_sat (by simp at hx; subst hx; rfl) (og_sretz (og_econd (b := 0) (og_ccn og_n_eq (og_ine (tgt := 83) (og_f_Grammar_purpose (og_aload_n (i := 0) (t := 6) (j := 0) (by rfl) (by rfl) d_Grammar_isKnown_70) og_w278 d_Grammar_isKnown_71) (og_bipush (by decide) d_Grammar_isKnown_74) d_Grammar_isKnown_76 (by decide))) d_Grammar_isKnown_79 d_Grammar_isKnown_80 (by decide) d_Grammar_isKnown_83 (by rfl)) d_Grammar_isKnown_84)) (fun hx => og_scs (fun hx => og_sat (by simp at hx; subst hx; rfl) (og_sretz (og_econd (b := 0) (og_ccn og_n_eq (og_ine (tgt := 98) (og_f_Grammar_purpose (og_aload_n (i := 0) (t := 6) (j := 0) (by rfl) (by rfl) d_Grammar_isKnown_85) og_w278 d_Grammar_isKnown_86) (og_bipush (by decide) d_Grammar_isKnown_89) d_Grammar_isKnown_91 (by decide))) d_Grammar_isKnown_94 d_Grammar_isKnown_95 (by decide) d_Grammar_isKnown_98 (by rfl)) d_Grammar_isKnown_99)) (fun hx => og_scs (fun hx => og_sat (by simp at hx; rcases hx with rfl | rfl <;> rfl) (og_sretz (og_econd (b := 0) (og_ccn og_n_eq (og_ine (tgt := 113) (og_f_Grammar_purpose (og_aload_n (i := 0) (t := 6) (j := 0) (by rfl) (by rfl) d_Grammar_isKnown_100) og_w278 d_Grammar_isKnown_101) (og_bipush (by decide) d_Grammar_isKnown_104) d_Grammar_isKnown_106 (by decide))) d_Grammar_isKnown_109 d_Grammar_isKnown_110 (by decide) d_Grammar_isKnown_113 (by rfl)) d_Grammar_isKnown_114)) (fun hx => og_sat (og_lkn (by simp_all)) (og_sretz (og_iconst (by decide) d_Grammar_isKnown_115) d_Grammar_isKnown_116))))))) (fun h => by cases h)
abbrev og_c_Grammar_test : ByteArray := prog_3_method_4_code
abbrev og_y_Grammar_test : MethodName := ⟨"OpenGraves$Grammar", "test", "(I)V"⟩
theorem v_Grammar_test {own : String} {idx dep d : Nat} (h : (5 + d) + 1 ≤ dep) : og_sV own idx og_y_Grammar_test og_c_Grammar_test 3 2 (5 + d) dep 4 1 := ⟨⟨3, og_sl_Grammar, og_T_Grammar, 3, rfl, by decide, rfl⟩, og_w579, (og_memP (⟨"OpenGraves$Grammar", "test", "(I)V"⟩, 3) (List.mem_of_getElem? (i := 10) (by decide +kernel))), og_w11, og_w580, ⟨by decide +kernel, by decide +kernel, by decide +kernel⟩, h, by decide⟩
abbrev og_c_Grammar_both : ByteArray := prog_3_method_5_code
abbrev og_y_Grammar_both : MethodName := ⟨"OpenGraves$Grammar", "both", "(I)V"⟩
theorem v_Grammar_both {own : String} {idx dep d : Nat} (h : (5 + d) + 1 ≤ dep) : og_sV own idx og_y_Grammar_both og_c_Grammar_both 3 2 (5 + d) dep 4 1 := ⟨⟨3, og_sl_Grammar, og_T_Grammar, 3, rfl, by decide, rfl⟩, og_w583, (og_memP (⟨"OpenGraves$Grammar", "both", "(I)V"⟩, 3) (List.mem_of_getElem? (i := 11) (by decide +kernel))), og_w11, og_w584, ⟨by decide +kernel, by decide +kernel, by decide +kernel⟩, h, by decide⟩
abbrev og_c_Grammar_fact : ByteArray := prog_3_method_6_code
abbrev og_y_Grammar_fact : MethodName := ⟨"OpenGraves$Grammar", "fact", "(I)V"⟩
theorem v_Grammar_fact {own : String} {idx dep d : Nat} (h : (5 + d) + 1 ≤ dep) : og_sV own idx og_y_Grammar_fact og_c_Grammar_fact 2 2 (5 + d) dep 4 1 := ⟨⟨3, og_sl_Grammar, og_T_Grammar, 3, rfl, by decide, rfl⟩, og_w587, (og_memP (⟨"OpenGraves$Grammar", "fact", "(I)V"⟩, 3) (List.mem_of_getElem? (i := 12) (by decide +kernel))), og_w11, og_w588, ⟨by decide +kernel, by decide +kernel, by decide +kernel⟩, h, by decide⟩
abbrev og_c_Grammar_comparison : ByteArray := prog_3_method_7_code
abbrev og_y_Grammar_comparison : MethodName := ⟨"OpenGraves$Grammar", "comparison", "(I)V"⟩
theorem v_Grammar_comparison {own : String} {idx dep d : Nat} (h : (5 + d) + 1 ≤ dep) : og_sV own idx og_y_Grammar_comparison og_c_Grammar_comparison 3 2 (5 + d) dep 4 1 := ⟨⟨3, og_sl_Grammar, og_T_Grammar, 3, rfl, by decide, rfl⟩, og_w616, (og_memP (⟨"OpenGraves$Grammar", "comparison", "(I)V"⟩, 3) (List.mem_of_getElem? (i := 14) (by decide +kernel))), og_w11, og_w617, ⟨by decide +kernel, by decide +kernel, by decide +kernel⟩, h, by decide⟩
abbrev og_c_Grammar_sum : ByteArray := prog_3_method_8_code
abbrev og_y_Grammar_sum : MethodName := ⟨"OpenGraves$Grammar", "sum", "(I)V"⟩
theorem v_Grammar_sum {own : String} {idx dep d : Nat} (h : (5 + d) + 1 ≤ dep) : og_sV own idx og_y_Grammar_sum og_c_Grammar_sum 4 2 (5 + d) dep 4 1 := ⟨⟨3, og_sl_Grammar, og_T_Grammar, 3, rfl, by decide, rfl⟩, og_w620, (og_memP (⟨"OpenGraves$Grammar", "sum", "(I)V"⟩, 3) (List.mem_of_getElem? (i := 15) (by decide +kernel))), og_w11, og_w621, ⟨by decide +kernel, by decide +kernel, by decide +kernel⟩, h, by decide⟩
abbrev og_c_Grammar_product : ByteArray := prog_3_method_9_code
abbrev og_y_Grammar_product : MethodName := ⟨"OpenGraves$Grammar", "product", "(I)V"⟩
theorem v_Grammar_product {own : String} {idx dep d : Nat} (h : (5 + d) + 1 ≤ dep) : og_sV own idx og_y_Grammar_product og_c_Grammar_product 4 2 (5 + d) dep 4 1 := ⟨⟨3, og_sl_Grammar, og_T_Grammar, 3, rfl, by decide, rfl⟩, og_w624, (og_memP (⟨"OpenGraves$Grammar", "product", "(I)V"⟩, 3) (List.mem_of_getElem? (i := 16) (by decide +kernel))), og_w11, og_w625, ⟨by decide +kernel, by decide +kernel, by decide +kernel⟩, h, by decide⟩
abbrev og_c_Grammar_part : ByteArray := prog_3_method_10_code
abbrev og_y_Grammar_part : MethodName := ⟨"OpenGraves$Grammar", "part", "(I)V"⟩
theorem v_Grammar_part {own : String} {idx dep d : Nat} (h : (5 + d) + 1 ≤ dep) : og_sV own idx og_y_Grammar_part og_c_Grammar_part 3 2 (5 + d) dep 4 1 := ⟨⟨3, og_sl_Grammar, og_T_Grammar, 3, rfl, by decide, rfl⟩, og_w628, (og_memP (⟨"OpenGraves$Grammar", "part", "(I)V"⟩, 3) (List.mem_of_getElem? (i := 17) (by decide +kernel))), og_w11, og_w629, ⟨by decide +kernel, by decide +kernel, by decide +kernel⟩, h, by decide⟩
abbrev og_c_Grammar_pair : ByteArray := prog_3_method_11_code
abbrev og_y_Grammar_pair : MethodName := ⟨"OpenGraves$Grammar", "pair", "(II)V"⟩
theorem v_Grammar_pair {own : String} {idx dep d : Nat} (h : (5 + d) + 1 ≤ dep) : og_sV own idx og_y_Grammar_pair og_c_Grammar_pair 3 2 (5 + d) dep 4 2 := ⟨⟨3, og_sl_Grammar, og_T_Grammar, 3, rfl, by decide, rfl⟩, og_w638, (og_memP (⟨"OpenGraves$Grammar", "pair", "(II)V"⟩, 3) (List.mem_of_getElem? (i := 18) (by decide +kernel))), og_w11, og_w639, ⟨by decide +kernel, by decide +kernel, by decide +kernel⟩, h, by decide⟩
theorem d_Grammar_test_0 : decode og_c_Grammar_test 0 = .ok (.aload_n 0, 1) := by decide +kernel
theorem d_Grammar_test_1 : decode og_c_Grammar_test 1 = .ok (.iload_n 1, 1) := by decide +kernel
theorem d_Grammar_test_2 : decode og_c_Grammar_test 2 = .ok (.invokevirtual 66, 3) := by decide +kernel
theorem d_Grammar_test_5 : decode og_c_Grammar_test 5 = .ok (.iconst 0, 1) := by decide +kernel
theorem d_Grammar_test_6 : decode og_c_Grammar_test 6 = .ok (.istore_n 2, 1) := by decide +kernel
theorem d_Grammar_test_7 : decode og_c_Grammar_test 7 = .ok (.iload_n 2, 1) := by decide +kernel
theorem d_Grammar_test_8 : decode og_c_Grammar_test 8 = .ok (.sipush 1600, 3) := by decide +kernel
theorem d_Grammar_test_11 : decode og_c_Grammar_test 11 = .ok (.if_icmp .ge 42, 3) := by decide +kernel
theorem d_Grammar_test_14 : decode og_c_Grammar_test 14 = .ok (.aload_n 0, 1) := by decide +kernel
theorem d_Grammar_test_15 : decode og_c_Grammar_test 15 = .ok (.getfield 9, 3) := by decide +kernel
theorem d_Grammar_test_18 : decode og_c_Grammar_test 18 = .ok (.bipush 19, 2) := by decide +kernel
theorem d_Grammar_test_20 : decode og_c_Grammar_test 20 = .ok (.invokevirtual 69, 3) := by decide +kernel
theorem d_Grammar_test_23 : decode og_c_Grammar_test 23 = .ok (.ifCond .eq 30, 3) := by decide +kernel
theorem d_Grammar_test_26 : decode og_c_Grammar_test 26 = .ok (.aload_n 0, 1) := by decide +kernel
theorem d_Grammar_test_27 : decode og_c_Grammar_test 27 = .ok (.getfield 9, 3) := by decide +kernel
theorem d_Grammar_test_30 : decode og_c_Grammar_test 30 = .ok (.invokevirtual 37, 3) := by decide +kernel
theorem d_Grammar_test_33 : decode og_c_Grammar_test 33 = .ok (.aload_n 0, 1) := by decide +kernel
theorem d_Grammar_test_34 : decode og_c_Grammar_test 34 = .ok (.iload_n 1, 1) := by decide +kernel
theorem d_Grammar_test_35 : decode og_c_Grammar_test 35 = .ok (.invokevirtual 66, 3) := by decide +kernel
theorem d_Grammar_test_38 : decode og_c_Grammar_test 38 = .ok (.aload_n 0, 1) := by decide +kernel
theorem d_Grammar_test_39 : decode og_c_Grammar_test 39 = .ok (.getfield 15, 3) := by decide +kernel
theorem d_Grammar_test_42 : decode og_c_Grammar_test 42 = .ok (.bipush 19, 2) := by decide +kernel
theorem d_Grammar_test_44 : decode og_c_Grammar_test 44 = .ok (.invokevirtual 73, 3) := by decide +kernel
theorem d_Grammar_test_47 : decode og_c_Grammar_test 47 = .ok (.iinc 2 1, 3) := by decide +kernel
theorem d_Grammar_test_50 : decode og_c_Grammar_test 50 = .ok (.goto (-43), 3) := by decide +kernel
theorem d_Grammar_test_53 : decode og_c_Grammar_test 53 = .ok (.return_, 1) := by decide +kernel
theorem d_Grammar_both_0 : decode og_c_Grammar_both 0 = .ok (.aload_n 0, 1) := by decide +kernel
theorem d_Grammar_both_1 : decode og_c_Grammar_both 1 = .ok (.iload_n 1, 1) := by decide +kernel
theorem d_Grammar_both_2 : decode og_c_Grammar_both 2 = .ok (.invokevirtual 76, 3) := by decide +kernel
theorem d_Grammar_both_5 : decode og_c_Grammar_both 5 = .ok (.iconst 0, 1) := by decide +kernel
theorem d_Grammar_both_6 : decode og_c_Grammar_both 6 = .ok (.istore_n 2, 1) := by decide +kernel
theorem d_Grammar_both_7 : decode og_c_Grammar_both 7 = .ok (.iload_n 2, 1) := by decide +kernel
theorem d_Grammar_both_8 : decode og_c_Grammar_both 8 = .ok (.sipush 1600, 3) := by decide +kernel
theorem d_Grammar_both_11 : decode og_c_Grammar_both 11 = .ok (.if_icmp .ge 42, 3) := by decide +kernel
theorem d_Grammar_both_14 : decode og_c_Grammar_both 14 = .ok (.aload_n 0, 1) := by decide +kernel
theorem d_Grammar_both_15 : decode og_c_Grammar_both 15 = .ok (.getfield 9, 3) := by decide +kernel
theorem d_Grammar_both_18 : decode og_c_Grammar_both 18 = .ok (.bipush 20, 2) := by decide +kernel
theorem d_Grammar_both_20 : decode og_c_Grammar_both 20 = .ok (.invokevirtual 69, 3) := by decide +kernel
theorem d_Grammar_both_23 : decode og_c_Grammar_both 23 = .ok (.ifCond .eq 30, 3) := by decide +kernel
theorem d_Grammar_both_26 : decode og_c_Grammar_both 26 = .ok (.aload_n 0, 1) := by decide +kernel
theorem d_Grammar_both_27 : decode og_c_Grammar_both 27 = .ok (.getfield 9, 3) := by decide +kernel
theorem d_Grammar_both_30 : decode og_c_Grammar_both 30 = .ok (.invokevirtual 37, 3) := by decide +kernel
theorem d_Grammar_both_33 : decode og_c_Grammar_both 33 = .ok (.aload_n 0, 1) := by decide +kernel
theorem d_Grammar_both_34 : decode og_c_Grammar_both 34 = .ok (.iload_n 1, 1) := by decide +kernel
theorem d_Grammar_both_35 : decode og_c_Grammar_both 35 = .ok (.invokevirtual 76, 3) := by decide +kernel
theorem d_Grammar_both_38 : decode og_c_Grammar_both 38 = .ok (.aload_n 0, 1) := by decide +kernel
theorem d_Grammar_both_39 : decode og_c_Grammar_both 39 = .ok (.getfield 15, 3) := by decide +kernel
theorem d_Grammar_both_42 : decode og_c_Grammar_both 42 = .ok (.bipush 20, 2) := by decide +kernel
theorem d_Grammar_both_44 : decode og_c_Grammar_both 44 = .ok (.invokevirtual 73, 3) := by decide +kernel
theorem d_Grammar_both_47 : decode og_c_Grammar_both 47 = .ok (.iinc 2 1, 3) := by decide +kernel
theorem d_Grammar_both_50 : decode og_c_Grammar_both 50 = .ok (.goto (-43), 3) := by decide +kernel
theorem d_Grammar_both_53 : decode og_c_Grammar_both 53 = .ok (.return_, 1) := by decide +kernel
theorem d_Grammar_fact_0 : decode og_c_Grammar_fact 0 = .ok (.aload_n 0, 1) := by decide +kernel
theorem d_Grammar_fact_1 : decode og_c_Grammar_fact 1 = .ok (.getfield 9, 3) := by decide +kernel
theorem d_Grammar_fact_4 : decode og_c_Grammar_fact 4 = .ok (.bipush 21, 2) := by decide +kernel
theorem d_Grammar_fact_6 : decode og_c_Grammar_fact 6 = .ok (.invokevirtual 69, 3) := by decide +kernel
theorem d_Grammar_fact_9 : decode og_c_Grammar_fact 9 = .ok (.ifCond .eq 30, 3) := by decide +kernel
theorem d_Grammar_fact_12 : decode og_c_Grammar_fact 12 = .ok (.aload_n 0, 1) := by decide +kernel
theorem d_Grammar_fact_13 : decode og_c_Grammar_fact 13 = .ok (.iload_n 1, 1) := by decide +kernel
theorem d_Grammar_fact_14 : decode og_c_Grammar_fact 14 = .ok (.invokevirtual 79, 3) := by decide +kernel
theorem d_Grammar_fact_17 : decode og_c_Grammar_fact 17 = .ok (.ifCond .eq 96, 3) := by decide +kernel
theorem d_Grammar_fact_20 : decode og_c_Grammar_fact 20 = .ok (.aload_n 0, 1) := by decide +kernel
theorem d_Grammar_fact_21 : decode og_c_Grammar_fact 21 = .ok (.iload_n 1, 1) := by decide +kernel
theorem d_Grammar_fact_22 : decode og_c_Grammar_fact 22 = .ok (.iconst 1, 1) := by decide +kernel
theorem d_Grammar_fact_23 : decode og_c_Grammar_fact 23 = .ok (.iadd, 1) := by decide +kernel
theorem d_Grammar_fact_24 : decode og_c_Grammar_fact 24 = .ok (.invokevirtual 76, 3) := by decide +kernel
theorem d_Grammar_fact_27 : decode og_c_Grammar_fact 27 = .ok (.aload_n 0, 1) := by decide +kernel
theorem d_Grammar_fact_28 : decode og_c_Grammar_fact 28 = .ok (.getfield 15, 3) := by decide +kernel
theorem d_Grammar_fact_31 : decode og_c_Grammar_fact 31 = .ok (.bipush 21, 2) := by decide +kernel
theorem d_Grammar_fact_33 : decode og_c_Grammar_fact 33 = .ok (.invokevirtual 73, 3) := by decide +kernel
theorem d_Grammar_fact_36 : decode og_c_Grammar_fact 36 = .ok (.goto 77, 3) := by decide +kernel
theorem d_Grammar_fact_39 : decode og_c_Grammar_fact 39 = .ok (.aload_n 0, 1) := by decide +kernel
theorem d_Grammar_fact_40 : decode og_c_Grammar_fact 40 = .ok (.getfield 9, 3) := by decide +kernel
theorem d_Grammar_fact_43 : decode og_c_Grammar_fact 43 = .ok (.bipush 91, 2) := by decide +kernel
theorem d_Grammar_fact_45 : decode og_c_Grammar_fact 45 = .ok (.invokevirtual 82, 3) := by decide +kernel
theorem d_Grammar_fact_48 : decode og_c_Grammar_fact 48 = .ok (.ifCond .eq 30, 3) := by decide +kernel
theorem d_Grammar_fact_51 : decode og_c_Grammar_fact 51 = .ok (.aload_n 0, 1) := by decide +kernel
theorem d_Grammar_fact_52 : decode og_c_Grammar_fact 52 = .ok (.iload_n 1, 1) := by decide +kernel
theorem d_Grammar_fact_53 : decode og_c_Grammar_fact 53 = .ok (.invokevirtual 79, 3) := by decide +kernel
theorem d_Grammar_fact_56 : decode og_c_Grammar_fact 56 = .ok (.ifCond .eq 57, 3) := by decide +kernel
theorem d_Grammar_fact_59 : decode og_c_Grammar_fact 59 = .ok (.aload_n 0, 1) := by decide +kernel
theorem d_Grammar_fact_60 : decode og_c_Grammar_fact 60 = .ok (.iload_n 1, 1) := by decide +kernel
theorem d_Grammar_fact_61 : decode og_c_Grammar_fact 61 = .ok (.iconst 1, 1) := by decide +kernel
theorem d_Grammar_fact_62 : decode og_c_Grammar_fact 62 = .ok (.iadd, 1) := by decide +kernel
theorem d_Grammar_fact_63 : decode og_c_Grammar_fact 63 = .ok (.invokevirtual 57, 3) := by decide +kernel
theorem d_Grammar_fact_66 : decode og_c_Grammar_fact 66 = .ok (.aload_n 0, 1) := by decide +kernel
theorem d_Grammar_fact_67 : decode og_c_Grammar_fact 67 = .ok (.getfield 9, 3) := by decide +kernel
theorem d_Grammar_fact_70 : decode og_c_Grammar_fact 70 = .ok (.bipush 93, 2) := by decide +kernel
theorem d_Grammar_fact_72 : decode og_c_Grammar_fact 72 = .ok (.invokevirtual 85, 3) := by decide +kernel
theorem d_Grammar_fact_75 : decode og_c_Grammar_fact 75 = .ok (.goto 38, 3) := by decide +kernel
theorem d_Grammar_fact_78 : decode og_c_Grammar_fact 78 = .ok (.aload_n 0, 1) := by decide +kernel
theorem d_Grammar_fact_79 : decode og_c_Grammar_fact 79 = .ok (.getfield 9, 3) := by decide +kernel
theorem d_Grammar_fact_82 : decode og_c_Grammar_fact 82 = .ok (.bipush 22, 2) := by decide +kernel
theorem d_Grammar_fact_84 : decode og_c_Grammar_fact 84 = .ok (.invokevirtual 69, 3) := by decide +kernel
theorem d_Grammar_fact_87 : decode og_c_Grammar_fact 87 = .ok (.ifCond .eq 21, 3) := by decide +kernel
theorem d_Grammar_fact_90 : decode og_c_Grammar_fact 90 = .ok (.aload_n 0, 1) := by decide +kernel
theorem d_Grammar_fact_91 : decode og_c_Grammar_fact 91 = .ok (.getfield 9, 3) := by decide +kernel
theorem d_Grammar_fact_94 : decode og_c_Grammar_fact 94 = .ok (.invokevirtual 37, 3) := by decide +kernel
theorem d_Grammar_fact_97 : decode og_c_Grammar_fact 97 = .ok (.aload_n 0, 1) := by decide +kernel
theorem d_Grammar_fact_98 : decode og_c_Grammar_fact 98 = .ok (.getfield 15, 3) := by decide +kernel
theorem d_Grammar_fact_101 : decode og_c_Grammar_fact 101 = .ok (.iconst 1, 1) := by decide +kernel
theorem d_Grammar_fact_102 : decode og_c_Grammar_fact 102 = .ok (.invokevirtual 88, 3) := by decide +kernel
theorem d_Grammar_fact_105 : decode og_c_Grammar_fact 105 = .ok (.goto 8, 3) := by decide +kernel
theorem d_Grammar_fact_108 : decode og_c_Grammar_fact 108 = .ok (.aload_n 0, 1) := by decide +kernel
theorem d_Grammar_fact_109 : decode og_c_Grammar_fact 109 = .ok (.iload_n 1, 1) := by decide +kernel
theorem d_Grammar_fact_110 : decode og_c_Grammar_fact 110 = .ok (.invokevirtual 91, 3) := by decide +kernel
theorem d_Grammar_fact_113 : decode og_c_Grammar_fact 113 = .ok (.return_, 1) := by decide +kernel
theorem d_Grammar_comparison_0 : decode og_c_Grammar_comparison 0 = .ok (.aload_n 0, 1) := by decide +kernel
theorem d_Grammar_comparison_1 : decode og_c_Grammar_comparison 1 = .ok (.iload_n 1, 1) := by decide +kernel
theorem d_Grammar_comparison_2 : decode og_c_Grammar_comparison 2 = .ok (.invokevirtual 60, 3) := by decide +kernel
theorem d_Grammar_comparison_5 : decode og_c_Grammar_comparison 5 = .ok (.aload_n 0, 1) := by decide +kernel
theorem d_Grammar_comparison_6 : decode og_c_Grammar_comparison 6 = .ok (.getfield 9, 3) := by decide +kernel
theorem d_Grammar_comparison_9 : decode og_c_Grammar_comparison 9 = .ok (.bipush 60, 2) := by decide +kernel
theorem d_Grammar_comparison_11 : decode og_c_Grammar_comparison 11 = .ok (.invokevirtual 82, 3) := by decide +kernel
theorem d_Grammar_comparison_14 : decode og_c_Grammar_comparison 14 = .ok (.ifCond .ne 27, 3) := by decide +kernel
theorem d_Grammar_comparison_17 : decode og_c_Grammar_comparison 17 = .ok (.aload_n 0, 1) := by decide +kernel
theorem d_Grammar_comparison_18 : decode og_c_Grammar_comparison 18 = .ok (.getfield 9, 3) := by decide +kernel
theorem d_Grammar_comparison_21 : decode og_c_Grammar_comparison 21 = .ok (.bipush 62, 2) := by decide +kernel
theorem d_Grammar_comparison_23 : decode og_c_Grammar_comparison 23 = .ok (.invokevirtual 82, 3) := by decide +kernel
theorem d_Grammar_comparison_26 : decode og_c_Grammar_comparison 26 = .ok (.ifCond .ne 15, 3) := by decide +kernel
theorem d_Grammar_comparison_29 : decode og_c_Grammar_comparison 29 = .ok (.aload_n 0, 1) := by decide +kernel
theorem d_Grammar_comparison_30 : decode og_c_Grammar_comparison 30 = .ok (.getfield 9, 3) := by decide +kernel
theorem d_Grammar_comparison_33 : decode og_c_Grammar_comparison 33 = .ok (.bipush 61, 2) := by decide +kernel
theorem d_Grammar_comparison_35 : decode og_c_Grammar_comparison 35 = .ok (.invokevirtual 82, 3) := by decide +kernel
theorem d_Grammar_comparison_38 : decode og_c_Grammar_comparison 38 = .ok (.ifCond .eq 34, 3) := by decide +kernel
theorem d_Grammar_comparison_41 : decode og_c_Grammar_comparison 41 = .ok (.aload_n 0, 1) := by decide +kernel
theorem d_Grammar_comparison_42 : decode og_c_Grammar_comparison 42 = .ok (.getfield 9, 3) := by decide +kernel
theorem d_Grammar_comparison_45 : decode og_c_Grammar_comparison 45 = .ok (.getfield 94, 3) := by decide +kernel
theorem d_Grammar_comparison_48 : decode og_c_Grammar_comparison 48 = .ok (.istore_n 2, 1) := by decide +kernel
theorem d_Grammar_comparison_49 : decode og_c_Grammar_comparison 49 = .ok (.aload_n 0, 1) := by decide +kernel
theorem d_Grammar_comparison_50 : decode og_c_Grammar_comparison 50 = .ok (.getfield 9, 3) := by decide +kernel
theorem d_Grammar_comparison_53 : decode og_c_Grammar_comparison 53 = .ok (.invokevirtual 37, 3) := by decide +kernel
theorem d_Grammar_comparison_56 : decode og_c_Grammar_comparison 56 = .ok (.aload_n 0, 1) := by decide +kernel
theorem d_Grammar_comparison_57 : decode og_c_Grammar_comparison 57 = .ok (.iload_n 1, 1) := by decide +kernel
theorem d_Grammar_comparison_58 : decode og_c_Grammar_comparison 58 = .ok (.invokevirtual 60, 3) := by decide +kernel
theorem d_Grammar_comparison_61 : decode og_c_Grammar_comparison 61 = .ok (.aload_n 0, 1) := by decide +kernel
theorem d_Grammar_comparison_62 : decode og_c_Grammar_comparison 62 = .ok (.getfield 15, 3) := by decide +kernel
theorem d_Grammar_comparison_65 : decode og_c_Grammar_comparison 65 = .ok (.iload_n 2, 1) := by decide +kernel
theorem d_Grammar_comparison_66 : decode og_c_Grammar_comparison 66 = .ok (.invokevirtual 73, 3) := by decide +kernel
theorem d_Grammar_comparison_69 : decode og_c_Grammar_comparison 69 = .ok (.goto 11, 3) := by decide +kernel
theorem d_Grammar_comparison_72 : decode og_c_Grammar_comparison 72 = .ok (.aload_n 0, 1) := by decide +kernel
theorem d_Grammar_comparison_73 : decode og_c_Grammar_comparison 73 = .ok (.getfield 9, 3) := by decide +kernel
theorem d_Grammar_comparison_76 : decode og_c_Grammar_comparison 76 = .ok (.iconst 1, 1) := by decide +kernel
theorem d_Grammar_comparison_77 : decode og_c_Grammar_comparison 77 = .ok (.invokevirtual 33, 3) := by decide +kernel
theorem d_Grammar_comparison_80 : decode og_c_Grammar_comparison 80 = .ok (.return_, 1) := by decide +kernel
theorem d_Grammar_sum_0 : decode og_c_Grammar_sum 0 = .ok (.aload_n 0, 1) := by decide +kernel
theorem d_Grammar_sum_1 : decode og_c_Grammar_sum 1 = .ok (.iload_n 1, 1) := by decide +kernel
theorem d_Grammar_sum_2 : decode og_c_Grammar_sum 2 = .ok (.invokevirtual 97, 3) := by decide +kernel
theorem d_Grammar_sum_5 : decode og_c_Grammar_sum 5 = .ok (.iconst 0, 1) := by decide +kernel
theorem d_Grammar_sum_6 : decode og_c_Grammar_sum 6 = .ok (.istore_n 2, 1) := by decide +kernel
theorem d_Grammar_sum_7 : decode og_c_Grammar_sum 7 = .ok (.iload_n 2, 1) := by decide +kernel
theorem d_Grammar_sum_8 : decode og_c_Grammar_sum 8 = .ok (.sipush 1600, 3) := by decide +kernel
theorem d_Grammar_sum_11 : decode og_c_Grammar_sum 11 = .ok (.if_icmp .ge 61, 3) := by decide +kernel
theorem d_Grammar_sum_14 : decode og_c_Grammar_sum 14 = .ok (.aload_n 0, 1) := by decide +kernel
theorem d_Grammar_sum_15 : decode og_c_Grammar_sum 15 = .ok (.getfield 9, 3) := by decide +kernel
theorem d_Grammar_sum_18 : decode og_c_Grammar_sum 18 = .ok (.bipush 43, 2) := by decide +kernel
theorem d_Grammar_sum_20 : decode og_c_Grammar_sum 20 = .ok (.invokevirtual 82, 3) := by decide +kernel
theorem d_Grammar_sum_23 : decode og_c_Grammar_sum 23 = .ok (.ifCond .ne 15, 3) := by decide +kernel
theorem d_Grammar_sum_26 : decode og_c_Grammar_sum 26 = .ok (.aload_n 0, 1) := by decide +kernel
theorem d_Grammar_sum_27 : decode og_c_Grammar_sum 27 = .ok (.getfield 9, 3) := by decide +kernel
theorem d_Grammar_sum_30 : decode og_c_Grammar_sum 30 = .ok (.bipush 45, 2) := by decide +kernel
theorem d_Grammar_sum_32 : decode og_c_Grammar_sum 32 = .ok (.invokevirtual 82, 3) := by decide +kernel
theorem d_Grammar_sum_35 : decode og_c_Grammar_sum 35 = .ok (.ifCond .eq 37, 3) := by decide +kernel
theorem d_Grammar_sum_38 : decode og_c_Grammar_sum 38 = .ok (.aload_n 0, 1) := by decide +kernel
theorem d_Grammar_sum_39 : decode og_c_Grammar_sum 39 = .ok (.getfield 9, 3) := by decide +kernel
theorem d_Grammar_sum_42 : decode og_c_Grammar_sum 42 = .ok (.getfield 94, 3) := by decide +kernel
theorem d_Grammar_sum_45 : decode og_c_Grammar_sum 45 = .ok (.istore_n 3, 1) := by decide +kernel
theorem d_Grammar_sum_46 : decode og_c_Grammar_sum 46 = .ok (.aload_n 0, 1) := by decide +kernel
theorem d_Grammar_sum_47 : decode og_c_Grammar_sum 47 = .ok (.getfield 9, 3) := by decide +kernel
theorem d_Grammar_sum_50 : decode og_c_Grammar_sum 50 = .ok (.invokevirtual 37, 3) := by decide +kernel
theorem d_Grammar_sum_53 : decode og_c_Grammar_sum 53 = .ok (.aload_n 0, 1) := by decide +kernel
theorem d_Grammar_sum_54 : decode og_c_Grammar_sum 54 = .ok (.iload_n 1, 1) := by decide +kernel
theorem d_Grammar_sum_55 : decode og_c_Grammar_sum 55 = .ok (.invokevirtual 97, 3) := by decide +kernel
theorem d_Grammar_sum_58 : decode og_c_Grammar_sum 58 = .ok (.aload_n 0, 1) := by decide +kernel
theorem d_Grammar_sum_59 : decode og_c_Grammar_sum 59 = .ok (.getfield 15, 3) := by decide +kernel
theorem d_Grammar_sum_62 : decode og_c_Grammar_sum 62 = .ok (.iload_n 3, 1) := by decide +kernel
theorem d_Grammar_sum_63 : decode og_c_Grammar_sum 63 = .ok (.invokevirtual 73, 3) := by decide +kernel
theorem d_Grammar_sum_66 : decode og_c_Grammar_sum 66 = .ok (.iinc 2 1, 3) := by decide +kernel
theorem d_Grammar_sum_69 : decode og_c_Grammar_sum 69 = .ok (.goto (-62), 3) := by decide +kernel
theorem d_Grammar_sum_72 : decode og_c_Grammar_sum 72 = .ok (.return_, 1) := by decide +kernel
theorem d_Grammar_product_0 : decode og_c_Grammar_product 0 = .ok (.aload_n 0, 1) := by decide +kernel
theorem d_Grammar_product_1 : decode og_c_Grammar_product 1 = .ok (.iload_n 1, 1) := by decide +kernel
theorem d_Grammar_product_2 : decode og_c_Grammar_product 2 = .ok (.invokevirtual 100, 3) := by decide +kernel
theorem d_Grammar_product_5 : decode og_c_Grammar_product 5 = .ok (.iconst 0, 1) := by decide +kernel
theorem d_Grammar_product_6 : decode og_c_Grammar_product 6 = .ok (.istore_n 2, 1) := by decide +kernel
theorem d_Grammar_product_7 : decode og_c_Grammar_product 7 = .ok (.iload_n 2, 1) := by decide +kernel
theorem d_Grammar_product_8 : decode og_c_Grammar_product 8 = .ok (.sipush 1600, 3) := by decide +kernel
theorem d_Grammar_product_11 : decode og_c_Grammar_product 11 = .ok (.if_icmp .ge 61, 3) := by decide +kernel
theorem d_Grammar_product_14 : decode og_c_Grammar_product 14 = .ok (.aload_n 0, 1) := by decide +kernel
theorem d_Grammar_product_15 : decode og_c_Grammar_product 15 = .ok (.getfield 9, 3) := by decide +kernel
theorem d_Grammar_product_18 : decode og_c_Grammar_product 18 = .ok (.bipush 42, 2) := by decide +kernel
theorem d_Grammar_product_20 : decode og_c_Grammar_product 20 = .ok (.invokevirtual 82, 3) := by decide +kernel
theorem d_Grammar_product_23 : decode og_c_Grammar_product 23 = .ok (.ifCond .ne 15, 3) := by decide +kernel
theorem d_Grammar_product_26 : decode og_c_Grammar_product 26 = .ok (.aload_n 0, 1) := by decide +kernel
theorem d_Grammar_product_27 : decode og_c_Grammar_product 27 = .ok (.getfield 9, 3) := by decide +kernel
theorem d_Grammar_product_30 : decode og_c_Grammar_product 30 = .ok (.bipush 47, 2) := by decide +kernel
theorem d_Grammar_product_32 : decode og_c_Grammar_product 32 = .ok (.invokevirtual 82, 3) := by decide +kernel
theorem d_Grammar_product_35 : decode og_c_Grammar_product 35 = .ok (.ifCond .eq 37, 3) := by decide +kernel
theorem d_Grammar_product_38 : decode og_c_Grammar_product 38 = .ok (.aload_n 0, 1) := by decide +kernel
theorem d_Grammar_product_39 : decode og_c_Grammar_product 39 = .ok (.getfield 9, 3) := by decide +kernel
theorem d_Grammar_product_42 : decode og_c_Grammar_product 42 = .ok (.getfield 94, 3) := by decide +kernel
theorem d_Grammar_product_45 : decode og_c_Grammar_product 45 = .ok (.istore_n 3, 1) := by decide +kernel
theorem d_Grammar_product_46 : decode og_c_Grammar_product 46 = .ok (.aload_n 0, 1) := by decide +kernel
theorem d_Grammar_product_47 : decode og_c_Grammar_product 47 = .ok (.getfield 9, 3) := by decide +kernel
theorem d_Grammar_product_50 : decode og_c_Grammar_product 50 = .ok (.invokevirtual 37, 3) := by decide +kernel
theorem d_Grammar_product_53 : decode og_c_Grammar_product 53 = .ok (.aload_n 0, 1) := by decide +kernel
theorem d_Grammar_product_54 : decode og_c_Grammar_product 54 = .ok (.iload_n 1, 1) := by decide +kernel
theorem d_Grammar_product_55 : decode og_c_Grammar_product 55 = .ok (.invokevirtual 100, 3) := by decide +kernel
theorem d_Grammar_product_58 : decode og_c_Grammar_product 58 = .ok (.aload_n 0, 1) := by decide +kernel
theorem d_Grammar_product_59 : decode og_c_Grammar_product 59 = .ok (.getfield 15, 3) := by decide +kernel
theorem d_Grammar_product_62 : decode og_c_Grammar_product 62 = .ok (.iload_n 3, 1) := by decide +kernel
theorem d_Grammar_product_63 : decode og_c_Grammar_product 63 = .ok (.invokevirtual 73, 3) := by decide +kernel
theorem d_Grammar_product_66 : decode og_c_Grammar_product 66 = .ok (.iinc 2 1, 3) := by decide +kernel
theorem d_Grammar_product_69 : decode og_c_Grammar_product 69 = .ok (.goto (-62), 3) := by decide +kernel
theorem d_Grammar_product_72 : decode og_c_Grammar_product 72 = .ok (.return_, 1) := by decide +kernel
theorem d_Grammar_part_0 : decode og_c_Grammar_part 0 = .ok (.aload_n 0, 1) := by decide +kernel
theorem d_Grammar_part_1 : decode og_c_Grammar_part 1 = .ok (.getfield 9, 3) := by decide +kernel
theorem d_Grammar_part_4 : decode og_c_Grammar_part 4 = .ok (.invokevirtual 29, 3) := by decide +kernel
theorem d_Grammar_part_7 : decode og_c_Grammar_part 7 = .ok (.istore_n 2, 1) := by decide +kernel
theorem d_Grammar_part_8 : decode og_c_Grammar_part 8 = .ok (.aload_n 0, 1) := by decide +kernel
theorem d_Grammar_part_9 : decode og_c_Grammar_part 9 = .ok (.getfield 9, 3) := by decide +kernel
theorem d_Grammar_part_12 : decode og_c_Grammar_part 12 = .ok (.invokevirtual 103, 3) := by decide +kernel
theorem d_Grammar_part_15 : decode og_c_Grammar_part 15 = .ok (.ifCond .eq 24, 3) := by decide +kernel
theorem d_Grammar_part_18 : decode og_c_Grammar_part 18 = .ok (.aload_n 0, 1) := by decide +kernel
theorem d_Grammar_part_19 : decode og_c_Grammar_part 19 = .ok (.getfield 15, 3) := by decide +kernel
theorem d_Grammar_part_22 : decode og_c_Grammar_part 22 = .ok (.aload_n 0, 1) := by decide +kernel
theorem d_Grammar_part_23 : decode og_c_Grammar_part 23 = .ok (.getfield 9, 3) := by decide +kernel
theorem d_Grammar_part_26 : decode og_c_Grammar_part 26 = .ok (.iconst 0, 1) := by decide +kernel
theorem d_Grammar_part_27 : decode og_c_Grammar_part 27 = .ok (.sipush 9999, 3) := by decide +kernel
theorem d_Grammar_part_30 : decode og_c_Grammar_part 30 = .ok (.invokevirtual 106, 3) := by decide +kernel
theorem d_Grammar_part_33 : decode og_c_Grammar_part 33 = .ok (.invokevirtual 88, 3) := by decide +kernel
theorem d_Grammar_part_36 : decode og_c_Grammar_part 36 = .ok (.goto 150, 3) := by decide +kernel
theorem d_Grammar_part_39 : decode og_c_Grammar_part 39 = .ok (.aload_n 0, 1) := by decide +kernel
theorem d_Grammar_part_40 : decode og_c_Grammar_part 40 = .ok (.getfield 9, 3) := by decide +kernel
theorem d_Grammar_part_43 : decode og_c_Grammar_part 43 = .ok (.bipush 40, 2) := by decide +kernel
theorem d_Grammar_part_45 : decode og_c_Grammar_part 45 = .ok (.invokevirtual 82, 3) := by decide +kernel
theorem d_Grammar_part_48 : decode og_c_Grammar_part 48 = .ok (.ifCond .eq 30, 3) := by decide +kernel
theorem d_Grammar_part_51 : decode og_c_Grammar_part 51 = .ok (.aload_n 0, 1) := by decide +kernel
theorem d_Grammar_part_52 : decode og_c_Grammar_part 52 = .ok (.iload_n 1, 1) := by decide +kernel
theorem d_Grammar_part_53 : decode og_c_Grammar_part 53 = .ok (.invokevirtual 79, 3) := by decide +kernel
theorem d_Grammar_part_56 : decode og_c_Grammar_part 56 = .ok (.ifCond .eq 130, 3) := by decide +kernel
theorem d_Grammar_part_59 : decode og_c_Grammar_part 59 = .ok (.aload_n 0, 1) := by decide +kernel
theorem d_Grammar_part_60 : decode og_c_Grammar_part 60 = .ok (.iload_n 1, 1) := by decide +kernel
theorem d_Grammar_part_61 : decode og_c_Grammar_part 61 = .ok (.iconst 1, 1) := by decide +kernel
theorem d_Grammar_part_62 : decode og_c_Grammar_part 62 = .ok (.iadd, 1) := by decide +kernel
theorem d_Grammar_part_63 : decode og_c_Grammar_part 63 = .ok (.invokevirtual 60, 3) := by decide +kernel
theorem d_Grammar_part_66 : decode og_c_Grammar_part 66 = .ok (.aload_n 0, 1) := by decide +kernel
theorem d_Grammar_part_67 : decode og_c_Grammar_part 67 = .ok (.getfield 9, 3) := by decide +kernel
theorem d_Grammar_part_70 : decode og_c_Grammar_part 70 = .ok (.bipush 41, 2) := by decide +kernel
theorem d_Grammar_part_72 : decode og_c_Grammar_part 72 = .ok (.invokevirtual 85, 3) := by decide +kernel
theorem d_Grammar_part_75 : decode og_c_Grammar_part 75 = .ok (.goto 111, 3) := by decide +kernel
theorem d_Grammar_part_78 : decode og_c_Grammar_part 78 = .ok (.iload_n 2, 1) := by decide +kernel
theorem d_Grammar_part_79 : decode og_c_Grammar_part 79 = .ok (.bipush 23, 2) := by decide +kernel
theorem d_Grammar_part_81 : decode og_c_Grammar_part 81 = .ok (.if_icmp .eq 9, 3) := by decide +kernel
theorem d_Grammar_part_84 : decode og_c_Grammar_part 84 = .ok (.iload_n 2, 1) := by decide +kernel
theorem d_Grammar_part_85 : decode og_c_Grammar_part 85 = .ok (.bipush 24, 2) := by decide +kernel
theorem d_Grammar_part_87 : decode og_c_Grammar_part 87 = .ok (.if_icmp .ne 19, 3) := by decide +kernel
theorem d_Grammar_part_90 : decode og_c_Grammar_part 90 = .ok (.aload_n 0, 1) := by decide +kernel
theorem d_Grammar_part_91 : decode og_c_Grammar_part 91 = .ok (.getfield 9, 3) := by decide +kernel
theorem d_Grammar_part_94 : decode og_c_Grammar_part 94 = .ok (.invokevirtual 37, 3) := by decide +kernel
theorem d_Grammar_part_97 : decode og_c_Grammar_part 97 = .ok (.aload_n 0, 1) := by decide +kernel
theorem d_Grammar_part_98 : decode og_c_Grammar_part 98 = .ok (.iload_n 1, 1) := by decide +kernel
theorem d_Grammar_part_99 : decode og_c_Grammar_part 99 = .ok (.iload_n 2, 1) := by decide +kernel
theorem d_Grammar_part_100 : decode og_c_Grammar_part 100 = .ok (.invokevirtual 110, 3) := by decide +kernel
theorem d_Grammar_part_103 : decode og_c_Grammar_part 103 = .ok (.goto 83, 3) := by decide +kernel
theorem d_Grammar_part_106 : decode og_c_Grammar_part 106 = .ok (.iload_n 2, 1) := by decide +kernel
theorem d_Grammar_part_107 : decode og_c_Grammar_part 107 = .ok (.bipush 18, 2) := by decide +kernel
theorem d_Grammar_part_109 : decode og_c_Grammar_part 109 = .ok (.if_icmp .eq 8, 3) := by decide +kernel
theorem d_Grammar_part_112 : decode og_c_Grammar_part 112 = .ok (.iload_n 2, 1) := by decide +kernel
theorem d_Grammar_part_113 : decode og_c_Grammar_part 113 = .ok (.iconst 3, 1) := by decide +kernel
theorem d_Grammar_part_114 : decode og_c_Grammar_part 114 = .ok (.if_icmp .ne 38, 3) := by decide +kernel
theorem d_Grammar_part_117 : decode og_c_Grammar_part 117 = .ok (.aload_n 0, 1) := by decide +kernel
theorem d_Grammar_part_118 : decode og_c_Grammar_part 118 = .ok (.getfield 52, 3) := by decide +kernel
theorem d_Grammar_part_121 : decode og_c_Grammar_part 121 = .ok (.bipush 13, 2) := by decide +kernel
theorem d_Grammar_part_123 : decode og_c_Grammar_part 123 = .ok (.if_icmp .ne 29, 3) := by decide +kernel
theorem d_Grammar_part_126 : decode og_c_Grammar_part 126 = .ok (.aload_n 0, 1) := by decide +kernel
theorem d_Grammar_part_127 : decode og_c_Grammar_part 127 = .ok (.iload_n 1, 1) := by decide +kernel
theorem d_Grammar_part_128 : decode og_c_Grammar_part 128 = .ok (.invokevirtual 79, 3) := by decide +kernel
theorem d_Grammar_part_131 : decode og_c_Grammar_part 131 = .ok (.ifCond .eq 55, 3) := by decide +kernel
theorem d_Grammar_part_134 : decode og_c_Grammar_part 134 = .ok (.aload_n 0, 1) := by decide +kernel
theorem d_Grammar_part_135 : decode og_c_Grammar_part 135 = .ok (.iload_n 1, 1) := by decide +kernel
theorem d_Grammar_part_136 : decode og_c_Grammar_part 136 = .ok (.iconst 1, 1) := by decide +kernel
theorem d_Grammar_part_137 : decode og_c_Grammar_part 137 = .ok (.iadd, 1) := by decide +kernel
theorem d_Grammar_part_138 : decode og_c_Grammar_part 138 = .ok (.invokevirtual 100, 3) := by decide +kernel
theorem d_Grammar_part_141 : decode og_c_Grammar_part 141 = .ok (.aload_n 0, 1) := by decide +kernel
theorem d_Grammar_part_142 : decode og_c_Grammar_part 142 = .ok (.getfield 15, 3) := by decide +kernel
theorem d_Grammar_part_145 : decode og_c_Grammar_part 145 = .ok (.iload_n 2, 1) := by decide +kernel
theorem d_Grammar_part_146 : decode og_c_Grammar_part 146 = .ok (.invokevirtual 73, 3) := by decide +kernel
theorem d_Grammar_part_149 : decode og_c_Grammar_part 149 = .ok (.goto 37, 3) := by decide +kernel
theorem d_Grammar_part_152 : decode og_c_Grammar_part 152 = .ok (.aload_n 0, 1) := by decide +kernel
theorem d_Grammar_part_153 : decode og_c_Grammar_part 153 = .ok (.iload_n 2, 1) := by decide +kernel
theorem d_Grammar_part_154 : decode og_c_Grammar_part 154 = .ok (.invokevirtual 114, 3) := by decide +kernel
theorem d_Grammar_part_157 : decode og_c_Grammar_part 157 = .ok (.ifCond .eq 21, 3) := by decide +kernel
theorem d_Grammar_part_160 : decode og_c_Grammar_part 160 = .ok (.aload_n 0, 1) := by decide +kernel
theorem d_Grammar_part_161 : decode og_c_Grammar_part 161 = .ok (.getfield 9, 3) := by decide +kernel
theorem d_Grammar_part_164 : decode og_c_Grammar_part 164 = .ok (.invokevirtual 37, 3) := by decide +kernel
theorem d_Grammar_part_167 : decode og_c_Grammar_part 167 = .ok (.aload_n 0, 1) := by decide +kernel
theorem d_Grammar_part_168 : decode og_c_Grammar_part 168 = .ok (.getfield 15, 3) := by decide +kernel
theorem d_Grammar_part_171 : decode og_c_Grammar_part 171 = .ok (.iload_n 2, 1) := by decide +kernel
theorem d_Grammar_part_172 : decode og_c_Grammar_part 172 = .ok (.invokevirtual 73, 3) := by decide +kernel
theorem d_Grammar_part_175 : decode og_c_Grammar_part 175 = .ok (.goto 11, 3) := by decide +kernel
theorem d_Grammar_part_178 : decode og_c_Grammar_part 178 = .ok (.aload_n 0, 1) := by decide +kernel
theorem d_Grammar_part_179 : decode og_c_Grammar_part 179 = .ok (.getfield 9, 3) := by decide +kernel
theorem d_Grammar_part_182 : decode og_c_Grammar_part 182 = .ok (.iconst 1, 1) := by decide +kernel
theorem d_Grammar_part_183 : decode og_c_Grammar_part 183 = .ok (.invokevirtual 33, 3) := by decide +kernel
theorem d_Grammar_part_186 : decode og_c_Grammar_part 186 = .ok (.return_, 1) := by decide +kernel
theorem d_Grammar_pair_0 : decode og_c_Grammar_pair 0 = .ok (.aload_n 0, 1) := by decide +kernel
theorem d_Grammar_pair_1 : decode og_c_Grammar_pair 1 = .ok (.getfield 9, 3) := by decide +kernel
theorem d_Grammar_pair_4 : decode og_c_Grammar_pair 4 = .ok (.bipush 40, 2) := by decide +kernel
theorem d_Grammar_pair_6 : decode og_c_Grammar_pair 6 = .ok (.invokevirtual 82, 3) := by decide +kernel
theorem d_Grammar_pair_9 : decode og_c_Grammar_pair 9 = .ok (.ifCond .ne 14, 3) := by decide +kernel
theorem d_Grammar_pair_12 : decode og_c_Grammar_pair 12 = .ok (.aload_n 0, 1) := by decide +kernel
theorem d_Grammar_pair_13 : decode og_c_Grammar_pair 13 = .ok (.getfield 9, 3) := by decide +kernel
theorem d_Grammar_pair_16 : decode og_c_Grammar_pair 16 = .ok (.iconst 1, 1) := by decide +kernel
theorem d_Grammar_pair_17 : decode og_c_Grammar_pair 17 = .ok (.invokevirtual 33, 3) := by decide +kernel
theorem d_Grammar_pair_20 : decode og_c_Grammar_pair 20 = .ok (.goto 51, 3) := by decide +kernel
theorem d_Grammar_pair_23 : decode og_c_Grammar_pair 23 = .ok (.aload_n 0, 1) := by decide +kernel
theorem d_Grammar_pair_24 : decode og_c_Grammar_pair 24 = .ok (.iload_n 1, 1) := by decide +kernel
theorem d_Grammar_pair_25 : decode og_c_Grammar_pair 25 = .ok (.invokevirtual 79, 3) := by decide +kernel
theorem d_Grammar_pair_28 : decode og_c_Grammar_pair 28 = .ok (.ifCond .eq 43, 3) := by decide +kernel
theorem d_Grammar_pair_31 : decode og_c_Grammar_pair 31 = .ok (.aload_n 0, 1) := by decide +kernel
theorem d_Grammar_pair_32 : decode og_c_Grammar_pair 32 = .ok (.iload_n 1, 1) := by decide +kernel
theorem d_Grammar_pair_33 : decode og_c_Grammar_pair 33 = .ok (.iconst 1, 1) := by decide +kernel
theorem d_Grammar_pair_34 : decode og_c_Grammar_pair 34 = .ok (.iadd, 1) := by decide +kernel
theorem d_Grammar_pair_35 : decode og_c_Grammar_pair 35 = .ok (.invokevirtual 60, 3) := by decide +kernel
theorem d_Grammar_pair_38 : decode og_c_Grammar_pair 38 = .ok (.aload_n 0, 1) := by decide +kernel
theorem d_Grammar_pair_39 : decode og_c_Grammar_pair 39 = .ok (.getfield 9, 3) := by decide +kernel
theorem d_Grammar_pair_42 : decode og_c_Grammar_pair 42 = .ok (.bipush 44, 2) := by decide +kernel
theorem d_Grammar_pair_44 : decode og_c_Grammar_pair 44 = .ok (.invokevirtual 85, 3) := by decide +kernel
theorem d_Grammar_pair_47 : decode og_c_Grammar_pair 47 = .ok (.aload_n 0, 1) := by decide +kernel
theorem d_Grammar_pair_48 : decode og_c_Grammar_pair 48 = .ok (.iload_n 1, 1) := by decide +kernel
theorem d_Grammar_pair_49 : decode og_c_Grammar_pair 49 = .ok (.iconst 1, 1) := by decide +kernel
theorem d_Grammar_pair_50 : decode og_c_Grammar_pair 50 = .ok (.iadd, 1) := by decide +kernel
theorem d_Grammar_pair_51 : decode og_c_Grammar_pair 51 = .ok (.invokevirtual 60, 3) := by decide +kernel
theorem d_Grammar_pair_54 : decode og_c_Grammar_pair 54 = .ok (.aload_n 0, 1) := by decide +kernel
theorem d_Grammar_pair_55 : decode og_c_Grammar_pair 55 = .ok (.getfield 9, 3) := by decide +kernel
theorem d_Grammar_pair_58 : decode og_c_Grammar_pair 58 = .ok (.bipush 41, 2) := by decide +kernel
theorem d_Grammar_pair_60 : decode og_c_Grammar_pair 60 = .ok (.invokevirtual 85, 3) := by decide +kernel
theorem d_Grammar_pair_63 : decode og_c_Grammar_pair 63 = .ok (.aload_n 0, 1) := by decide +kernel
theorem d_Grammar_pair_64 : decode og_c_Grammar_pair 64 = .ok (.getfield 15, 3) := by decide +kernel
theorem d_Grammar_pair_67 : decode og_c_Grammar_pair 67 = .ok (.iload_n 2, 1) := by decide +kernel
theorem d_Grammar_pair_68 : decode og_c_Grammar_pair 68 = .ok (.invokevirtual 73, 3) := by decide +kernel
theorem d_Grammar_pair_71 : decode og_c_Grammar_pair 71 = .ok (.return_, 1) := by decide +kernel
def m_gr : Nat → Nat → og_Dn
  | 0, _ => fun _ _ _ => False
  | d + 1, 0 => og_den [8, 0] 3 2 (og_seq (og_exp (og_call (m_gr d 1) [og_loc 0, og_loc 1])) (og_seq (og_set 2 (og_k 0)) (og_while (og_and (og_cc og_rlt (og_loc 2) (og_k 1600)) (og_cb (og_call m_Tokens_isWord [og_fix (fun _ => 3) (og_loc 0), og_k 19]))) (og_seq (og_exp (og_call m_Tokens_step [og_fix (fun _ => 3) (og_loc 0)])) (og_seq (og_exp (og_call (m_gr d 1) [og_loc 0, og_loc 1])) (og_exp (og_call m_Script_addDeed [og_get 1 (og_loc 0), og_k 19])))) (og_inc 2 1))))
  | d + 1, 1 => og_den [8, 0] 3 2 (og_seq (og_exp (og_call (m_gr d 2) [og_loc 0, og_loc 1])) (og_seq (og_set 2 (og_k 0)) (og_while (og_and (og_cc og_rlt (og_loc 2) (og_k 1600)) (og_cb (og_call m_Tokens_isWord [og_fix (fun _ => 3) (og_loc 0), og_k 20]))) (og_seq (og_exp (og_call m_Tokens_step [og_fix (fun _ => 3) (og_loc 0)])) (og_seq (og_exp (og_call (m_gr d 2) [og_loc 0, og_loc 1])) (og_exp (og_call m_Script_addDeed [og_get 1 (og_loc 0), og_k 20])))) (og_inc 2 1))))
  | d + 1, 2 => og_den [8, 0] 2 2 (og_if (og_cb (og_call m_Tokens_isWord [og_fix (fun _ => 3) (og_loc 0), og_k 21])) (og_if (og_cb (og_call m_Grammar_opens [og_loc 0, og_loc 1])) (og_seq (og_exp (og_call (m_gr d 2) [og_loc 0, og_add (og_loc 1) (og_k 1)])) (og_exp (og_call m_Script_addDeed [og_get 1 (og_loc 0), og_k 21]))) (og_skip)) (og_if (og_cb (og_call m_Tokens_isSign [og_fix (fun _ => 3) (og_loc 0), og_k 91])) (og_if (og_cb (og_call m_Grammar_opens [og_loc 0, og_loc 1])) (og_seq (og_exp (og_call (m_gr d 0) [og_loc 0, og_add (og_loc 1) (og_k 1)])) (og_exp (og_call m_Tokens_takeSign [og_fix (fun _ => 3) (og_loc 0), og_k 93]))) (og_skip)) (og_if (og_cb (og_call m_Tokens_isWord [og_fix (fun _ => 3) (og_loc 0), og_k 22])) (og_seq (og_exp (og_call m_Tokens_step [og_fix (fun _ => 3) (og_loc 0)])) (og_exp (og_call m_Script_addNumber [og_get 1 (og_loc 0), og_k 1]))) (og_exp (og_call (m_gr d 3) [og_loc 0, og_loc 1])))))
  | d + 1, 3 => og_den [8, 0] 3 2 (og_seq (og_exp (og_call (m_gr d 4) [og_loc 0, og_loc 1])) (og_if (og_or (og_or (og_cb (og_call m_Tokens_isSign [og_fix (fun _ => 3) (og_loc 0), og_k 60])) (og_cb (og_call m_Tokens_isSign [og_fix (fun _ => 3) (og_loc 0), og_k 62]))) (og_cb (og_call m_Tokens_isSign [og_fix (fun _ => 3) (og_loc 0), og_k 61]))) (og_seq (og_set 2 (og_get 5 (og_fix (fun _ => 3) (og_loc 0)))) (og_seq (og_exp (og_call m_Tokens_step [og_fix (fun _ => 3) (og_loc 0)])) (og_seq (og_exp (og_call (m_gr d 4) [og_loc 0, og_loc 1])) (og_exp (og_call m_Script_addDeed [og_get 1 (og_loc 0), og_loc 2]))))) (og_exp (og_call m_Tokens_fail [og_fix (fun _ => 3) (og_loc 0), og_k 1]))))
  | d + 1, 4 => og_den [8, 0] 4 2 (og_seq (og_exp (og_call (m_gr d 5) [og_loc 0, og_loc 1])) (og_seq (og_set 2 (og_k 0)) (og_while (og_and (og_cc og_rlt (og_loc 2) (og_k 1600)) (og_or (og_cb (og_call m_Tokens_isSign [og_fix (fun _ => 3) (og_loc 0), og_k 43])) (og_cb (og_call m_Tokens_isSign [og_fix (fun _ => 3) (og_loc 0), og_k 45])))) (og_seq (og_set 3 (og_get 5 (og_fix (fun _ => 3) (og_loc 0)))) (og_seq (og_exp (og_call m_Tokens_step [og_fix (fun _ => 3) (og_loc 0)])) (og_seq (og_exp (og_call (m_gr d 5) [og_loc 0, og_loc 1])) (og_exp (og_call m_Script_addDeed [og_get 1 (og_loc 0), og_loc 3]))))) (og_inc 2 1))))
  | d + 1, 5 => og_den [8, 0] 4 2 (og_seq (og_exp (og_call (m_gr d 6) [og_loc 0, og_loc 1])) (og_seq (og_set 2 (og_k 0)) (og_while (og_and (og_cc og_rlt (og_loc 2) (og_k 1600)) (og_or (og_cb (og_call m_Tokens_isSign [og_fix (fun _ => 3) (og_loc 0), og_k 42])) (og_cb (og_call m_Tokens_isSign [og_fix (fun _ => 3) (og_loc 0), og_k 47])))) (og_seq (og_set 3 (og_get 5 (og_fix (fun _ => 3) (og_loc 0)))) (og_seq (og_exp (og_call m_Tokens_step [og_fix (fun _ => 3) (og_loc 0)])) (og_seq (og_exp (og_call (m_gr d 6) [og_loc 0, og_loc 1])) (og_exp (og_call m_Script_addDeed [og_get 1 (og_loc 0), og_loc 3]))))) (og_inc 2 1))))
  | d + 1, 6 => og_den [8, 0] 3 2 (og_seq (og_set 2 (og_call m_Tokens_word [og_fix (fun _ => 3) (og_loc 0)])) (og_if (og_cb (og_call m_Tokens_isNumber [og_fix (fun _ => 3) (og_loc 0)])) (og_exp (og_call m_Script_addNumber [og_get 1 (og_loc 0), og_call m_Tokens_takeNumber [og_fix (fun _ => 3) (og_loc 0), og_k 0, og_k 9999]])) (og_if (og_cb (og_call m_Tokens_isSign [og_fix (fun _ => 3) (og_loc 0), og_k 40])) (og_if (og_cb (og_call m_Grammar_opens [og_loc 0, og_loc 1])) (og_seq (og_exp (og_call (m_gr d 4) [og_loc 0, og_add (og_loc 1) (og_k 1)])) (og_exp (og_call m_Tokens_takeSign [og_fix (fun _ => 3) (og_loc 0), og_k 41]))) (og_skip)) (og_if (og_or (og_cc og_req (og_loc 2) (og_k 23)) (og_cc og_req (og_loc 2) (og_k 24))) (og_seq (og_exp (og_call m_Tokens_step [og_fix (fun _ => 3) (og_loc 0)])) (og_exp (og_call (m_gr d 7) [og_loc 0, og_loc 1, og_loc 2]))) (og_if (og_and (og_or (og_cc og_req (og_loc 2) (og_k 18)) (og_cc og_req (og_loc 2) (og_k 3))) (og_cc og_req (og_get 2 (og_loc 0)) (og_k 13))) (og_if (og_cb (og_call m_Grammar_opens [og_loc 0, og_loc 1])) (og_seq (og_exp (og_call (m_gr d 6) [og_loc 0, og_add (og_loc 1) (og_k 1)])) (og_exp (og_call m_Script_addDeed [og_get 1 (og_loc 0), og_loc 2]))) (og_skip)) (og_if (og_cb (og_call m_Grammar_isKnown [og_loc 0, og_loc 2])) (og_seq (og_exp (og_call m_Tokens_step [og_fix (fun _ => 3) (og_loc 0)])) (og_exp (og_call m_Script_addDeed [og_get 1 (og_loc 0), og_loc 2]))) (og_exp (og_call m_Tokens_fail [og_fix (fun _ => 3) (og_loc 0), og_k 1]))))))))
  | d + 1, _ => og_den [8, 0, 0] 3 2 (og_if (og_not (og_cb (og_call m_Tokens_isSign [og_fix (fun _ => 3) (og_loc 0), og_k 40]))) (og_exp (og_call m_Tokens_fail [og_fix (fun _ => 3) (og_loc 0), og_k 1])) (og_if (og_cb (og_call m_Grammar_opens [og_loc 0, og_loc 1])) (og_seq (og_exp (og_call (m_gr d 4) [og_loc 0, og_add (og_loc 1) (og_k 1)])) (og_seq (og_exp (og_call m_Tokens_takeSign [og_fix (fun _ => 3) (og_loc 0), og_k 44])) (og_seq (og_exp (og_call (m_gr d 4) [og_loc 0, og_add (og_loc 1) (og_k 1)])) (og_seq (og_exp (og_call m_Tokens_takeSign [og_fix (fun _ => 3) (og_loc 0), og_k 41])) (og_exp (og_call m_Script_addDeed [og_get 1 (og_loc 0), og_loc 2])))))) (og_skip)))
set_option maxRecDepth 20000 in
theorem ok_gr (d : Nat) : og_MOK og_y_Grammar_test og_c_Grammar_test 3 2 (5 + d) [8, 0] (m_gr d 0) ∧ og_MOK og_y_Grammar_both og_c_Grammar_both 3 2 (5 + d) [8, 0] (m_gr d 1) ∧ og_MOK og_y_Grammar_fact og_c_Grammar_fact 2 2 (5 + d) [8, 0] (m_gr d 2) ∧ og_MOK og_y_Grammar_comparison og_c_Grammar_comparison 3 2 (5 + d) [8, 0] (m_gr d 3) ∧ og_MOK og_y_Grammar_sum og_c_Grammar_sum 4 2 (5 + d) [8, 0] (m_gr d 4) ∧ og_MOK og_y_Grammar_product og_c_Grammar_product 4 2 (5 + d) [8, 0] (m_gr d 5) ∧ og_MOK og_y_Grammar_part og_c_Grammar_part 3 2 (5 + d) [8, 0] (m_gr d 6) ∧ og_MOK og_y_Grammar_pair og_c_Grammar_pair 3 2 (5 + d) [8, 0, 0] (m_gr d 7) := by
  induction d with
  | zero => exact ⟨fun _ _ _ _ _ _ _ _ _ hden => hden.elim, fun _ _ _ _ _ _ _ _ _ hden => hden.elim, fun _ _ _ _ _ _ _ _ _ hden => hden.elim, fun _ _ _ _ _ _ _ _ _ hden => hden.elim, fun _ _ _ _ _ _ _ _ _ hden => hden.elim, fun _ _ _ _ _ _ _ _ _ hden => hden.elim, fun _ _ _ _ _ _ _ _ _ hden => hden.elim, fun _ _ _ _ _ _ _ _ _ hden => hden.elim⟩
  | succ d ih =>
    exact ⟨og_method (b := 53) (lt' := [(0, 8), (1, 0)]) (by decide +kernel) (by decide) (by decide) (og_sseq (og_callVv (og_acons (og_aload_n (i := 0) (t := 6) (j := 0) (by rfl) (by rfl) d_Grammar_test_0) (og_acons (og_iload_n (i := 1) (j := 1) (by rfl) (by rfl) d_Grammar_test_1) (og_anil))) ih.2.1 (v_Grammar_both (by omega)) og_w581 d_Grammar_test_2) (og_sdrop (lt' := [(0, 8), (1, 0), (2, 0)]) (lt2 := [(0, 8), (1, 0)]) (og_sseq (og_istore_n (i := 2) (lt' := [(0, 8), (1, 0), (2, 0)]) (og_iconst (by decide) d_Grammar_test_5) (by rfl) (by decide) (by decide) d_Grammar_test_6) (og_swhile (T := 26) (F := 53) (cp0 := 47) (og_cand (og_ccn og_n_lt (og_ige (tgt := 53) (og_iload_n (i := 2) (j := 2) (by rfl) (by rfl) d_Grammar_test_7) (og_sipush (by decide) d_Grammar_test_8) d_Grammar_test_11 (by decide))) (og_cbeq (tgt := 53) (og_callVz (og_acons (og_f_Grammar_tokens (og_aload_n (i := 0) (t := 6) (j := 0) (by rfl) (by rfl) d_Grammar_test_14) og_w276 d_Grammar_test_15) (og_acons (og_bipush (by decide) d_Grammar_test_18) (og_anil))) (by decide) ok_Tokens_isWord (v_Tokens_isWord (by omega)) og_w589 d_Grammar_test_20) d_Grammar_test_23 (by decide))) (og_sseq (og_callVv (og_acons (og_f_Grammar_tokens (og_aload_n (i := 0) (t := 6) (j := 0) (by rfl) (by rfl) d_Grammar_test_26) og_w276 d_Grammar_test_27) (og_anil)) ok_Tokens_step (v_Tokens_step (by omega)) og_w595 d_Grammar_test_30) (og_sseq (og_callVv (og_acons (og_aload_n (i := 0) (t := 6) (j := 0) (by rfl) (by rfl) d_Grammar_test_33) (og_acons (og_iload_n (i := 1) (j := 1) (by rfl) (by rfl) d_Grammar_test_34) (og_anil))) ih.2.1 (v_Grammar_both (by omega)) og_w581 d_Grammar_test_35) (og_callVv (og_acons (og_f_Grammar_script (og_aload_n (i := 0) (t := 6) (j := 0) (by rfl) (by rfl) d_Grammar_test_38) og_w277 d_Grammar_test_39) (og_acons (og_bipush (by decide) d_Grammar_test_42) (og_anil))) ok_Script_addDeed (v_Script_addDeed (by omega)) og_w596 d_Grammar_test_44))) (og_gS (b' := 7) (og_iinc (j := 2) (lt' := [(0, 8), (1, 0), (2, 0)]) (by rfl) (by decide) (by decide) d_Grammar_test_47) d_Grammar_test_50 (by decide)))) (by decide))) (fun _ => d_Grammar_test_53),
      og_method (b := 53) (lt' := [(0, 8), (1, 0)]) (by decide +kernel) (by decide) (by decide) (og_sseq (og_callVv (og_acons (og_aload_n (i := 0) (t := 6) (j := 0) (by rfl) (by rfl) d_Grammar_both_0) (og_acons (og_iload_n (i := 1) (j := 1) (by rfl) (by rfl) d_Grammar_both_1) (og_anil))) ih.2.2.1 (v_Grammar_fact (by omega)) og_w585 d_Grammar_both_2) (og_sdrop (lt' := [(0, 8), (1, 0), (2, 0)]) (lt2 := [(0, 8), (1, 0)]) (og_sseq (og_istore_n (i := 2) (lt' := [(0, 8), (1, 0), (2, 0)]) (og_iconst (by decide) d_Grammar_both_5) (by rfl) (by decide) (by decide) d_Grammar_both_6) (og_swhile (T := 26) (F := 53) (cp0 := 47) (og_cand (og_ccn og_n_lt (og_ige (tgt := 53) (og_iload_n (i := 2) (j := 2) (by rfl) (by rfl) d_Grammar_both_7) (og_sipush (by decide) d_Grammar_both_8) d_Grammar_both_11 (by decide))) (og_cbeq (tgt := 53) (og_callVz (og_acons (og_f_Grammar_tokens (og_aload_n (i := 0) (t := 6) (j := 0) (by rfl) (by rfl) d_Grammar_both_14) og_w276 d_Grammar_both_15) (og_acons (og_bipush (by decide) d_Grammar_both_18) (og_anil))) (by decide) ok_Tokens_isWord (v_Tokens_isWord (by omega)) og_w589 d_Grammar_both_20) d_Grammar_both_23 (by decide))) (og_sseq (og_callVv (og_acons (og_f_Grammar_tokens (og_aload_n (i := 0) (t := 6) (j := 0) (by rfl) (by rfl) d_Grammar_both_26) og_w276 d_Grammar_both_27) (og_anil)) ok_Tokens_step (v_Tokens_step (by omega)) og_w595 d_Grammar_both_30) (og_sseq (og_callVv (og_acons (og_aload_n (i := 0) (t := 6) (j := 0) (by rfl) (by rfl) d_Grammar_both_33) (og_acons (og_iload_n (i := 1) (j := 1) (by rfl) (by rfl) d_Grammar_both_34) (og_anil))) ih.2.2.1 (v_Grammar_fact (by omega)) og_w585 d_Grammar_both_35) (og_callVv (og_acons (og_f_Grammar_script (og_aload_n (i := 0) (t := 6) (j := 0) (by rfl) (by rfl) d_Grammar_both_38) og_w277 d_Grammar_both_39) (og_acons (og_bipush (by decide) d_Grammar_both_42) (og_anil))) ok_Script_addDeed (v_Script_addDeed (by omega)) og_w596 d_Grammar_both_44))) (og_gS (b' := 7) (og_iinc (j := 2) (lt' := [(0, 8), (1, 0), (2, 0)]) (by rfl) (by decide) (by decide) d_Grammar_both_47) d_Grammar_both_50 (by decide)))) (by decide))) (fun _ => d_Grammar_both_53),
      og_method (b := 113) (lt' := [(0, 8), (1, 0)]) (by decide +kernel) (by decide) (by decide) (og_sif (T := 12) (F := 39) (og_cbeq (tgt := 39) (og_callVz (og_acons (og_f_Grammar_tokens (og_aload_n (i := 0) (t := 6) (j := 0) (by rfl) (by rfl) d_Grammar_fact_0) og_w276 d_Grammar_fact_1) (og_acons (og_bipush (by decide) d_Grammar_fact_4) (og_anil))) (by decide) ok_Tokens_isWord (v_Tokens_isWord (by omega)) og_w589 d_Grammar_fact_6) d_Grammar_fact_9 (by decide)) (og_sif (T := 20) (F := 113) (og_cbeq (tgt := 113) (og_callVz (og_acons (og_aload_n (i := 0) (t := 6) (j := 0) (by rfl) (by rfl) d_Grammar_fact_12) (og_acons (og_iload_n (i := 1) (j := 1) (by rfl) (by rfl) d_Grammar_fact_13) (og_anil))) (by decide) ok_Grammar_opens (v_Grammar_opens (by omega)) og_w590 d_Grammar_fact_14) d_Grammar_fact_17 (by decide)) (og_sseq (og_callVv (og_acons (og_aload_n (i := 0) (t := 6) (j := 0) (by rfl) (by rfl) d_Grammar_fact_20) (og_acons (og_iadd (og_iload_n (i := 1) (j := 1) (by rfl) (by rfl) d_Grammar_fact_21) (og_iconst (by decide) d_Grammar_fact_22) d_Grammar_fact_23) (og_anil))) ih.2.2.1 (v_Grammar_fact (by omega)) og_w585 d_Grammar_fact_24) (og_gS (b' := 113) (og_callVv (og_acons (og_f_Grammar_script (og_aload_n (i := 0) (t := 6) (j := 0) (by rfl) (by rfl) d_Grammar_fact_27) og_w277 d_Grammar_fact_28) (og_acons (og_bipush (by decide) d_Grammar_fact_31) (og_anil))) ok_Script_addDeed (v_Script_addDeed (by omega)) og_w596 d_Grammar_fact_33) d_Grammar_fact_36 (by decide))) (og_sskip)) (og_sif (T := 51) (F := 78) (og_cbeq (tgt := 78) (og_callVz (og_acons (og_f_Grammar_tokens (og_aload_n (i := 0) (t := 6) (j := 0) (by rfl) (by rfl) d_Grammar_fact_39) og_w276 d_Grammar_fact_40) (og_acons (og_bipush (by decide) d_Grammar_fact_43) (og_anil))) (by decide) ok_Tokens_isSign (v_Tokens_isSign (by omega)) og_w604 d_Grammar_fact_45) d_Grammar_fact_48 (by decide)) (og_sif (T := 59) (F := 113) (og_cbeq (tgt := 113) (og_callVz (og_acons (og_aload_n (i := 0) (t := 6) (j := 0) (by rfl) (by rfl) d_Grammar_fact_51) (og_acons (og_iload_n (i := 1) (j := 1) (by rfl) (by rfl) d_Grammar_fact_52) (og_anil))) (by decide) ok_Grammar_opens (v_Grammar_opens (by omega)) og_w590 d_Grammar_fact_53) d_Grammar_fact_56 (by decide)) (og_sseq (og_callVv (og_acons (og_aload_n (i := 0) (t := 6) (j := 0) (by rfl) (by rfl) d_Grammar_fact_59) (og_acons (og_iadd (og_iload_n (i := 1) (j := 1) (by rfl) (by rfl) d_Grammar_fact_60) (og_iconst (by decide) d_Grammar_fact_61) d_Grammar_fact_62) (og_anil))) ih.1 (v_Grammar_test (by omega)) og_w577 d_Grammar_fact_63) (og_gS (b' := 113) (og_callVv (og_acons (og_f_Grammar_tokens (og_aload_n (i := 0) (t := 6) (j := 0) (by rfl) (by rfl) d_Grammar_fact_66) og_w276 d_Grammar_fact_67) (og_acons (og_bipush (by decide) d_Grammar_fact_70) (og_anil))) ok_Tokens_takeSign (v_Tokens_takeSign (by omega)) og_w608 d_Grammar_fact_72) d_Grammar_fact_75 (by decide))) (og_sskip)) (og_sif (T := 90) (F := 108) (og_cbeq (tgt := 108) (og_callVz (og_acons (og_f_Grammar_tokens (og_aload_n (i := 0) (t := 6) (j := 0) (by rfl) (by rfl) d_Grammar_fact_78) og_w276 d_Grammar_fact_79) (og_acons (og_bipush (by decide) d_Grammar_fact_82) (og_anil))) (by decide) ok_Tokens_isWord (v_Tokens_isWord (by omega)) og_w589 d_Grammar_fact_84) d_Grammar_fact_87 (by decide)) (og_sseq (og_callVv (og_acons (og_f_Grammar_tokens (og_aload_n (i := 0) (t := 6) (j := 0) (by rfl) (by rfl) d_Grammar_fact_90) og_w276 d_Grammar_fact_91) (og_anil)) ok_Tokens_step (v_Tokens_step (by omega)) og_w595 d_Grammar_fact_94) (og_gS (b' := 113) (og_callVv (og_acons (og_f_Grammar_script (og_aload_n (i := 0) (t := 6) (j := 0) (by rfl) (by rfl) d_Grammar_fact_97) og_w277 d_Grammar_fact_98) (og_acons (og_iconst (by decide) d_Grammar_fact_101) (og_anil))) ok_Script_addNumber (v_Script_addNumber (by omega)) og_w613 d_Grammar_fact_102) d_Grammar_fact_105 (by decide))) (og_callVv (og_acons (og_aload_n (i := 0) (t := 6) (j := 0) (by rfl) (by rfl) d_Grammar_fact_108) (og_acons (og_iload_n (i := 1) (j := 1) (by rfl) (by rfl) d_Grammar_fact_109) (og_anil))) ih.2.2.2.1 (v_Grammar_comparison (by omega)) og_w614 d_Grammar_fact_110)))) (fun _ => d_Grammar_fact_113),
      og_method (b := 80) (lt' := [(0, 8), (1, 0)]) (by decide +kernel) (by decide) (by decide) (og_sseq (og_callVv (og_acons (og_aload_n (i := 0) (t := 6) (j := 0) (by rfl) (by rfl) d_Grammar_comparison_0) (og_acons (og_iload_n (i := 1) (j := 1) (by rfl) (by rfl) d_Grammar_comparison_1) (og_anil))) ih.2.2.2.2.1 (v_Grammar_sum (by omega)) og_w618 d_Grammar_comparison_2) (og_sif (T := 41) (F := 72) (og_cor (og_cor (og_cbne (tgt := 41) (og_callVz (og_acons (og_f_Grammar_tokens (og_aload_n (i := 0) (t := 6) (j := 0) (by rfl) (by rfl) d_Grammar_comparison_5) og_w276 d_Grammar_comparison_6) (og_acons (og_bipush (by decide) d_Grammar_comparison_9) (og_anil))) (by decide) ok_Tokens_isSign (v_Tokens_isSign (by omega)) og_w604 d_Grammar_comparison_11) d_Grammar_comparison_14 (by decide)) (og_cbne (tgt := 41) (og_callVz (og_acons (og_f_Grammar_tokens (og_aload_n (i := 0) (t := 6) (j := 0) (by rfl) (by rfl) d_Grammar_comparison_17) og_w276 d_Grammar_comparison_18) (og_acons (og_bipush (by decide) d_Grammar_comparison_21) (og_anil))) (by decide) ok_Tokens_isSign (v_Tokens_isSign (by omega)) og_w604 d_Grammar_comparison_23) d_Grammar_comparison_26 (by decide))) (og_cbeq (tgt := 72) (og_callVz (og_acons (og_f_Grammar_tokens (og_aload_n (i := 0) (t := 6) (j := 0) (by rfl) (by rfl) d_Grammar_comparison_29) og_w276 d_Grammar_comparison_30) (og_acons (og_bipush (by decide) d_Grammar_comparison_33) (og_anil))) (by decide) ok_Tokens_isSign (v_Tokens_isSign (by omega)) og_w604 d_Grammar_comparison_35) d_Grammar_comparison_38 (by decide))) (og_sdrop (lt' := [(0, 8), (1, 0), (2, 0)]) (lt2 := [(0, 8), (1, 0)]) (og_sseq (og_istore_n (i := 2) (lt' := [(0, 8), (1, 0), (2, 0)]) (og_f_Tokens_value_N (og_f_Grammar_tokens (og_aload_n (i := 0) (t := 6) (j := 0) (by rfl) (by rfl) d_Grammar_comparison_41) og_w276 d_Grammar_comparison_42) og_w238 d_Grammar_comparison_45) (by rfl) (by decide) (by decide) d_Grammar_comparison_48) (og_sseq (og_callVv (og_acons (og_f_Grammar_tokens (og_aload_n (i := 0) (t := 6) (j := 0) (by rfl) (by rfl) d_Grammar_comparison_49) og_w276 d_Grammar_comparison_50) (og_anil)) ok_Tokens_step (v_Tokens_step (by omega)) og_w595 d_Grammar_comparison_53) (og_sseq (og_callVv (og_acons (og_aload_n (i := 0) (t := 6) (j := 0) (by rfl) (by rfl) d_Grammar_comparison_56) (og_acons (og_iload_n (i := 1) (j := 1) (by rfl) (by rfl) d_Grammar_comparison_57) (og_anil))) ih.2.2.2.2.1 (v_Grammar_sum (by omega)) og_w618 d_Grammar_comparison_58) (og_gS (b' := 80) (og_callVv (og_acons (og_f_Grammar_script (og_aload_n (i := 0) (t := 6) (j := 0) (by rfl) (by rfl) d_Grammar_comparison_61) og_w277 d_Grammar_comparison_62) (og_acons (og_iload_n (i := 2) (j := 2) (by rfl) (by rfl) d_Grammar_comparison_65) (og_anil))) ok_Script_addDeed (v_Script_addDeed (by omega)) og_w596 d_Grammar_comparison_66) d_Grammar_comparison_69 (by decide))))) (by decide)) (og_callVv (og_acons (og_f_Grammar_tokens (og_aload_n (i := 0) (t := 6) (j := 0) (by rfl) (by rfl) d_Grammar_comparison_72) og_w276 d_Grammar_comparison_73) (og_acons (og_iconst (by decide) d_Grammar_comparison_76) (og_anil))) ok_Tokens_fail (v_Tokens_fail (by omega)) og_w594 d_Grammar_comparison_77))) (fun _ => d_Grammar_comparison_80),
      og_method (b := 72) (lt' := [(0, 8), (1, 0)]) (by decide +kernel) (by decide) (by decide) (og_sseq (og_callVv (og_acons (og_aload_n (i := 0) (t := 6) (j := 0) (by rfl) (by rfl) d_Grammar_sum_0) (og_acons (og_iload_n (i := 1) (j := 1) (by rfl) (by rfl) d_Grammar_sum_1) (og_anil))) ih.2.2.2.2.2.1 (v_Grammar_product (by omega)) og_w622 d_Grammar_sum_2) (og_sdrop (lt' := [(0, 8), (1, 0), (2, 0)]) (lt2 := [(0, 8), (1, 0)]) (og_sseq (og_istore_n (i := 2) (lt' := [(0, 8), (1, 0), (2, 0)]) (og_iconst (by decide) d_Grammar_sum_5) (by rfl) (by decide) (by decide) d_Grammar_sum_6) (og_swhile (T := 38) (F := 72) (cp0 := 66) (og_cand (og_ccn og_n_lt (og_ige (tgt := 72) (og_iload_n (i := 2) (j := 2) (by rfl) (by rfl) d_Grammar_sum_7) (og_sipush (by decide) d_Grammar_sum_8) d_Grammar_sum_11 (by decide))) (og_cor (og_cbne (tgt := 38) (og_callVz (og_acons (og_f_Grammar_tokens (og_aload_n (i := 0) (t := 6) (j := 0) (by rfl) (by rfl) d_Grammar_sum_14) og_w276 d_Grammar_sum_15) (og_acons (og_bipush (by decide) d_Grammar_sum_18) (og_anil))) (by decide) ok_Tokens_isSign (v_Tokens_isSign (by omega)) og_w604 d_Grammar_sum_20) d_Grammar_sum_23 (by decide)) (og_cbeq (tgt := 72) (og_callVz (og_acons (og_f_Grammar_tokens (og_aload_n (i := 0) (t := 6) (j := 0) (by rfl) (by rfl) d_Grammar_sum_26) og_w276 d_Grammar_sum_27) (og_acons (og_bipush (by decide) d_Grammar_sum_30) (og_anil))) (by decide) ok_Tokens_isSign (v_Tokens_isSign (by omega)) og_w604 d_Grammar_sum_32) d_Grammar_sum_35 (by decide)))) (og_sdrop (lt' := [(0, 8), (1, 0), (2, 0), (3, 0)]) (lt2 := [(0, 8), (1, 0), (2, 0)]) (og_sseq (og_istore_n (i := 3) (lt' := [(0, 8), (1, 0), (2, 0), (3, 0)]) (og_f_Tokens_value_N (og_f_Grammar_tokens (og_aload_n (i := 0) (t := 6) (j := 0) (by rfl) (by rfl) d_Grammar_sum_38) og_w276 d_Grammar_sum_39) og_w238 d_Grammar_sum_42) (by rfl) (by decide) (by decide) d_Grammar_sum_45) (og_sseq (og_callVv (og_acons (og_f_Grammar_tokens (og_aload_n (i := 0) (t := 6) (j := 0) (by rfl) (by rfl) d_Grammar_sum_46) og_w276 d_Grammar_sum_47) (og_anil)) ok_Tokens_step (v_Tokens_step (by omega)) og_w595 d_Grammar_sum_50) (og_sseq (og_callVv (og_acons (og_aload_n (i := 0) (t := 6) (j := 0) (by rfl) (by rfl) d_Grammar_sum_53) (og_acons (og_iload_n (i := 1) (j := 1) (by rfl) (by rfl) d_Grammar_sum_54) (og_anil))) ih.2.2.2.2.2.1 (v_Grammar_product (by omega)) og_w622 d_Grammar_sum_55) (og_callVv (og_acons (og_f_Grammar_script (og_aload_n (i := 0) (t := 6) (j := 0) (by rfl) (by rfl) d_Grammar_sum_58) og_w277 d_Grammar_sum_59) (og_acons (og_iload_n (i := 3) (j := 3) (by rfl) (by rfl) d_Grammar_sum_62) (og_anil))) ok_Script_addDeed (v_Script_addDeed (by omega)) og_w596 d_Grammar_sum_63)))) (by decide)) (og_gS (b' := 7) (og_iinc (j := 2) (lt' := [(0, 8), (1, 0), (2, 0)]) (by rfl) (by decide) (by decide) d_Grammar_sum_66) d_Grammar_sum_69 (by decide)))) (by decide))) (fun _ => d_Grammar_sum_72),
      og_method (b := 72) (lt' := [(0, 8), (1, 0)]) (by decide +kernel) (by decide) (by decide) (og_sseq (og_callVv (og_acons (og_aload_n (i := 0) (t := 6) (j := 0) (by rfl) (by rfl) d_Grammar_product_0) (og_acons (og_iload_n (i := 1) (j := 1) (by rfl) (by rfl) d_Grammar_product_1) (og_anil))) ih.2.2.2.2.2.2.1 (v_Grammar_part (by omega)) og_w626 d_Grammar_product_2) (og_sdrop (lt' := [(0, 8), (1, 0), (2, 0)]) (lt2 := [(0, 8), (1, 0)]) (og_sseq (og_istore_n (i := 2) (lt' := [(0, 8), (1, 0), (2, 0)]) (og_iconst (by decide) d_Grammar_product_5) (by rfl) (by decide) (by decide) d_Grammar_product_6) (og_swhile (T := 38) (F := 72) (cp0 := 66) (og_cand (og_ccn og_n_lt (og_ige (tgt := 72) (og_iload_n (i := 2) (j := 2) (by rfl) (by rfl) d_Grammar_product_7) (og_sipush (by decide) d_Grammar_product_8) d_Grammar_product_11 (by decide))) (og_cor (og_cbne (tgt := 38) (og_callVz (og_acons (og_f_Grammar_tokens (og_aload_n (i := 0) (t := 6) (j := 0) (by rfl) (by rfl) d_Grammar_product_14) og_w276 d_Grammar_product_15) (og_acons (og_bipush (by decide) d_Grammar_product_18) (og_anil))) (by decide) ok_Tokens_isSign (v_Tokens_isSign (by omega)) og_w604 d_Grammar_product_20) d_Grammar_product_23 (by decide)) (og_cbeq (tgt := 72) (og_callVz (og_acons (og_f_Grammar_tokens (og_aload_n (i := 0) (t := 6) (j := 0) (by rfl) (by rfl) d_Grammar_product_26) og_w276 d_Grammar_product_27) (og_acons (og_bipush (by decide) d_Grammar_product_30) (og_anil))) (by decide) ok_Tokens_isSign (v_Tokens_isSign (by omega)) og_w604 d_Grammar_product_32) d_Grammar_product_35 (by decide)))) (og_sdrop (lt' := [(0, 8), (1, 0), (2, 0), (3, 0)]) (lt2 := [(0, 8), (1, 0), (2, 0)]) (og_sseq (og_istore_n (i := 3) (lt' := [(0, 8), (1, 0), (2, 0), (3, 0)]) (og_f_Tokens_value_N (og_f_Grammar_tokens (og_aload_n (i := 0) (t := 6) (j := 0) (by rfl) (by rfl) d_Grammar_product_38) og_w276 d_Grammar_product_39) og_w238 d_Grammar_product_42) (by rfl) (by decide) (by decide) d_Grammar_product_45) (og_sseq (og_callVv (og_acons (og_f_Grammar_tokens (og_aload_n (i := 0) (t := 6) (j := 0) (by rfl) (by rfl) d_Grammar_product_46) og_w276 d_Grammar_product_47) (og_anil)) ok_Tokens_step (v_Tokens_step (by omega)) og_w595 d_Grammar_product_50) (og_sseq (og_callVv (og_acons (og_aload_n (i := 0) (t := 6) (j := 0) (by rfl) (by rfl) d_Grammar_product_53) (og_acons (og_iload_n (i := 1) (j := 1) (by rfl) (by rfl) d_Grammar_product_54) (og_anil))) ih.2.2.2.2.2.2.1 (v_Grammar_part (by omega)) og_w626 d_Grammar_product_55) (og_callVv (og_acons (og_f_Grammar_script (og_aload_n (i := 0) (t := 6) (j := 0) (by rfl) (by rfl) d_Grammar_product_58) og_w277 d_Grammar_product_59) (og_acons (og_iload_n (i := 3) (j := 3) (by rfl) (by rfl) d_Grammar_product_62) (og_anil))) ok_Script_addDeed (v_Script_addDeed (by omega)) og_w596 d_Grammar_product_63)))) (by decide)) (og_gS (b' := 7) (og_iinc (j := 2) (lt' := [(0, 8), (1, 0), (2, 0)]) (by rfl) (by decide) (by decide) d_Grammar_product_66) d_Grammar_product_69 (by decide)))) (by decide))) (fun _ => d_Grammar_product_72),
      og_method (b := 186) (lt' := [(0, 8), (1, 0)]) (by decide +kernel) (by decide) (by decide) (og_sdrop (lt' := [(0, 8), (1, 0), (2, 0)]) (lt2 := [(0, 8), (1, 0)]) (og_sseq (og_istore_n (i := 2) (lt' := [(0, 8), (1, 0), (2, 0)]) (og_callVi (og_acons (og_f_Grammar_tokens (og_aload_n (i := 0) (t := 6) (j := 0) (by rfl) (by rfl) d_Grammar_part_0) og_w276 d_Grammar_part_1) (og_anil)) (by decide) ok_Tokens_word (v_Tokens_word (by omega)) og_w630 d_Grammar_part_4) (by rfl) (by decide) (by decide) d_Grammar_part_7) (og_sif (T := 18) (F := 39) (og_cbeq (tgt := 39) (og_callVz (og_acons (og_f_Grammar_tokens (og_aload_n (i := 0) (t := 6) (j := 0) (by rfl) (by rfl) d_Grammar_part_8) og_w276 d_Grammar_part_9) (og_anil)) (by decide) ok_Tokens_isNumber (v_Tokens_isNumber (by omega)) og_w631 d_Grammar_part_12) d_Grammar_part_15 (by decide)) (og_gS (b' := 186) (og_callVv (og_acons (og_f_Grammar_script (og_aload_n (i := 0) (t := 6) (j := 0) (by rfl) (by rfl) d_Grammar_part_18) og_w277 d_Grammar_part_19) (og_acons (og_callVi (og_acons (og_f_Grammar_tokens (og_aload_n (i := 0) (t := 6) (j := 0) (by rfl) (by rfl) d_Grammar_part_22) og_w276 d_Grammar_part_23) (og_acons (og_iconst (by decide) d_Grammar_part_26) (og_acons (og_sipush (by decide) d_Grammar_part_27) (og_anil)))) (by decide) ok_Tokens_takeNumber (v_Tokens_takeNumber (by omega)) og_w635 d_Grammar_part_30) (og_anil))) ok_Script_addNumber (v_Script_addNumber (by omega)) og_w613 d_Grammar_part_33) d_Grammar_part_36 (by decide)) (og_sif (T := 51) (F := 78) (og_cbeq (tgt := 78) (og_callVz (og_acons (og_f_Grammar_tokens (og_aload_n (i := 0) (t := 6) (j := 0) (by rfl) (by rfl) d_Grammar_part_39) og_w276 d_Grammar_part_40) (og_acons (og_bipush (by decide) d_Grammar_part_43) (og_anil))) (by decide) ok_Tokens_isSign (v_Tokens_isSign (by omega)) og_w604 d_Grammar_part_45) d_Grammar_part_48 (by decide)) (og_sif (T := 59) (F := 186) (og_cbeq (tgt := 186) (og_callVz (og_acons (og_aload_n (i := 0) (t := 6) (j := 0) (by rfl) (by rfl) d_Grammar_part_51) (og_acons (og_iload_n (i := 1) (j := 1) (by rfl) (by rfl) d_Grammar_part_52) (og_anil))) (by decide) ok_Grammar_opens (v_Grammar_opens (by omega)) og_w590 d_Grammar_part_53) d_Grammar_part_56 (by decide)) (og_sseq (og_callVv (og_acons (og_aload_n (i := 0) (t := 6) (j := 0) (by rfl) (by rfl) d_Grammar_part_59) (og_acons (og_iadd (og_iload_n (i := 1) (j := 1) (by rfl) (by rfl) d_Grammar_part_60) (og_iconst (by decide) d_Grammar_part_61) d_Grammar_part_62) (og_anil))) ih.2.2.2.2.1 (v_Grammar_sum (by omega)) og_w618 d_Grammar_part_63) (og_gS (b' := 186) (og_callVv (og_acons (og_f_Grammar_tokens (og_aload_n (i := 0) (t := 6) (j := 0) (by rfl) (by rfl) d_Grammar_part_66) og_w276 d_Grammar_part_67) (og_acons (og_bipush (by decide) d_Grammar_part_70) (og_anil))) ok_Tokens_takeSign (v_Tokens_takeSign (by omega)) og_w608 d_Grammar_part_72) d_Grammar_part_75 (by decide))) (og_sskip)) (og_sif (T := 90) (F := 106) (og_cor (og_ieq (tgt := 90) (og_iload_n (i := 2) (j := 2) (by rfl) (by rfl) d_Grammar_part_78) (og_bipush (by decide) d_Grammar_part_79) d_Grammar_part_81 (by decide)) (og_ccn og_n_eq (og_ine (tgt := 106) (og_iload_n (i := 2) (j := 2) (by rfl) (by rfl) d_Grammar_part_84) (og_bipush (by decide) d_Grammar_part_85) d_Grammar_part_87 (by decide)))) (og_sseq (og_callVv (og_acons (og_f_Grammar_tokens (og_aload_n (i := 0) (t := 6) (j := 0) (by rfl) (by rfl) d_Grammar_part_90) og_w276 d_Grammar_part_91) (og_anil)) ok_Tokens_step (v_Tokens_step (by omega)) og_w595 d_Grammar_part_94) (og_gS (b' := 186) (og_callVv (og_acons (og_aload_n (i := 0) (t := 6) (j := 0) (by rfl) (by rfl) d_Grammar_part_97) (og_acons (og_iload_n (i := 1) (j := 1) (by rfl) (by rfl) d_Grammar_part_98) (og_acons (og_iload_n (i := 2) (j := 2) (by rfl) (by rfl) d_Grammar_part_99) (og_anil)))) ih.2.2.2.2.2.2.2 (v_Grammar_pair (by omega)) og_w636 d_Grammar_part_100) d_Grammar_part_103 (by decide))) (og_sif (T := 126) (F := 152) (og_cand (og_cor (og_ieq (tgt := 117) (og_iload_n (i := 2) (j := 2) (by rfl) (by rfl) d_Grammar_part_106) (og_bipush (by decide) d_Grammar_part_107) d_Grammar_part_109 (by decide)) (og_ccn og_n_eq (og_ine (tgt := 152) (og_iload_n (i := 2) (j := 2) (by rfl) (by rfl) d_Grammar_part_112) (og_iconst (by decide) d_Grammar_part_113) d_Grammar_part_114 (by decide)))) (og_ccn og_n_eq (og_ine (tgt := 152) (og_f_Grammar_purpose (og_aload_n (i := 0) (t := 6) (j := 0) (by rfl) (by rfl) d_Grammar_part_117) og_w278 d_Grammar_part_118) (og_bipush (by decide) d_Grammar_part_121) d_Grammar_part_123 (by decide)))) (og_sif (T := 134) (F := 186) (og_cbeq (tgt := 186) (og_callVz (og_acons (og_aload_n (i := 0) (t := 6) (j := 0) (by rfl) (by rfl) d_Grammar_part_126) (og_acons (og_iload_n (i := 1) (j := 1) (by rfl) (by rfl) d_Grammar_part_127) (og_anil))) (by decide) ok_Grammar_opens (v_Grammar_opens (by omega)) og_w590 d_Grammar_part_128) d_Grammar_part_131 (by decide)) (og_sseq (og_callVv (og_acons (og_aload_n (i := 0) (t := 6) (j := 0) (by rfl) (by rfl) d_Grammar_part_134) (og_acons (og_iadd (og_iload_n (i := 1) (j := 1) (by rfl) (by rfl) d_Grammar_part_135) (og_iconst (by decide) d_Grammar_part_136) d_Grammar_part_137) (og_anil))) ih.2.2.2.2.2.2.1 (v_Grammar_part (by omega)) og_w626 d_Grammar_part_138) (og_gS (b' := 186) (og_callVv (og_acons (og_f_Grammar_script (og_aload_n (i := 0) (t := 6) (j := 0) (by rfl) (by rfl) d_Grammar_part_141) og_w277 d_Grammar_part_142) (og_acons (og_iload_n (i := 2) (j := 2) (by rfl) (by rfl) d_Grammar_part_145) (og_anil))) ok_Script_addDeed (v_Script_addDeed (by omega)) og_w596 d_Grammar_part_146) d_Grammar_part_149 (by decide))) (og_sskip)) (og_sif (T := 160) (F := 178) (og_cbeq (tgt := 178) (og_callVz (og_acons (og_aload_n (i := 0) (t := 6) (j := 0) (by rfl) (by rfl) d_Grammar_part_152) (og_acons (og_iload_n (i := 2) (j := 2) (by rfl) (by rfl) d_Grammar_part_153) (og_anil))) (by decide) ok_Grammar_isKnown (v_Grammar_isKnown (by omega)) og_w640 d_Grammar_part_154) d_Grammar_part_157 (by decide)) (og_sseq (og_callVv (og_acons (og_f_Grammar_tokens (og_aload_n (i := 0) (t := 6) (j := 0) (by rfl) (by rfl) d_Grammar_part_160) og_w276 d_Grammar_part_161) (og_anil)) ok_Tokens_step (v_Tokens_step (by omega)) og_w595 d_Grammar_part_164) (og_gS (b' := 186) (og_callVv (og_acons (og_f_Grammar_script (og_aload_n (i := 0) (t := 6) (j := 0) (by rfl) (by rfl) d_Grammar_part_167) og_w277 d_Grammar_part_168) (og_acons (og_iload_n (i := 2) (j := 2) (by rfl) (by rfl) d_Grammar_part_171) (og_anil))) ok_Script_addDeed (v_Script_addDeed (by omega)) og_w596 d_Grammar_part_172) d_Grammar_part_175 (by decide))) (og_callVv (og_acons (og_f_Grammar_tokens (og_aload_n (i := 0) (t := 6) (j := 0) (by rfl) (by rfl) d_Grammar_part_178) og_w276 d_Grammar_part_179) (og_acons (og_iconst (by decide) d_Grammar_part_182) (og_anil))) ok_Tokens_fail (v_Tokens_fail (by omega)) og_w594 d_Grammar_part_183))))))) (by decide)) (fun _ => d_Grammar_part_186),
      og_method (b := 71) (lt' := [(0, 8), (1, 0), (2, 0)]) (by decide +kernel) (by decide) (by decide) (og_sif (T := 12) (F := 23) (og_cnot (og_cbne (tgt := 23) (og_callVz (og_acons (og_f_Grammar_tokens (og_aload_n (i := 0) (t := 6) (j := 0) (by rfl) (by rfl) d_Grammar_pair_0) og_w276 d_Grammar_pair_1) (og_acons (og_bipush (by decide) d_Grammar_pair_4) (og_anil))) (by decide) ok_Tokens_isSign (v_Tokens_isSign (by omega)) og_w604 d_Grammar_pair_6) d_Grammar_pair_9 (by decide))) (og_gS (b' := 71) (og_callVv (og_acons (og_f_Grammar_tokens (og_aload_n (i := 0) (t := 6) (j := 0) (by rfl) (by rfl) d_Grammar_pair_12) og_w276 d_Grammar_pair_13) (og_acons (og_iconst (by decide) d_Grammar_pair_16) (og_anil))) ok_Tokens_fail (v_Tokens_fail (by omega)) og_w594 d_Grammar_pair_17) d_Grammar_pair_20 (by decide)) (og_sif (T := 31) (F := 71) (og_cbeq (tgt := 71) (og_callVz (og_acons (og_aload_n (i := 0) (t := 6) (j := 0) (by rfl) (by rfl) d_Grammar_pair_23) (og_acons (og_iload_n (i := 1) (j := 1) (by rfl) (by rfl) d_Grammar_pair_24) (og_anil))) (by decide) ok_Grammar_opens (v_Grammar_opens (by omega)) og_w590 d_Grammar_pair_25) d_Grammar_pair_28 (by decide)) (og_sseq (og_callVv (og_acons (og_aload_n (i := 0) (t := 6) (j := 0) (by rfl) (by rfl) d_Grammar_pair_31) (og_acons (og_iadd (og_iload_n (i := 1) (j := 1) (by rfl) (by rfl) d_Grammar_pair_32) (og_iconst (by decide) d_Grammar_pair_33) d_Grammar_pair_34) (og_anil))) ih.2.2.2.2.1 (v_Grammar_sum (by omega)) og_w618 d_Grammar_pair_35) (og_sseq (og_callVv (og_acons (og_f_Grammar_tokens (og_aload_n (i := 0) (t := 6) (j := 0) (by rfl) (by rfl) d_Grammar_pair_38) og_w276 d_Grammar_pair_39) (og_acons (og_bipush (by decide) d_Grammar_pair_42) (og_anil))) ok_Tokens_takeSign (v_Tokens_takeSign (by omega)) og_w608 d_Grammar_pair_44) (og_sseq (og_callVv (og_acons (og_aload_n (i := 0) (t := 6) (j := 0) (by rfl) (by rfl) d_Grammar_pair_47) (og_acons (og_iadd (og_iload_n (i := 1) (j := 1) (by rfl) (by rfl) d_Grammar_pair_48) (og_iconst (by decide) d_Grammar_pair_49) d_Grammar_pair_50) (og_anil))) ih.2.2.2.2.1 (v_Grammar_sum (by omega)) og_w618 d_Grammar_pair_51) (og_sseq (og_callVv (og_acons (og_f_Grammar_tokens (og_aload_n (i := 0) (t := 6) (j := 0) (by rfl) (by rfl) d_Grammar_pair_54) og_w276 d_Grammar_pair_55) (og_acons (og_bipush (by decide) d_Grammar_pair_58) (og_anil))) ok_Tokens_takeSign (v_Tokens_takeSign (by omega)) og_w608 d_Grammar_pair_60) (og_callVv (og_acons (og_f_Grammar_script (og_aload_n (i := 0) (t := 6) (j := 0) (by rfl) (by rfl) d_Grammar_pair_63) og_w277 d_Grammar_pair_64) (og_acons (og_iload_n (i := 2) (j := 2) (by rfl) (by rfl) d_Grammar_pair_67) (og_anil))) ok_Script_addDeed (v_Script_addDeed (by omega)) og_w596 d_Grammar_pair_68))))) (og_sskip))) (fun _ => d_Grammar_pair_71)⟩
def m_Grammar_test : og_Dn := m_gr 80 0
theorem ok_Grammar_test : og_MOK og_y_Grammar_test og_c_Grammar_test 3 2 (5 + 80) [8, 0] m_Grammar_test := (ok_gr 80).1
def m_Grammar_both : og_Dn := m_gr 80 1
theorem ok_Grammar_both : og_MOK og_y_Grammar_both og_c_Grammar_both 3 2 (5 + 80) [8, 0] m_Grammar_both := (ok_gr 80).2.1
def m_Grammar_fact : og_Dn := m_gr 80 2
theorem ok_Grammar_fact : og_MOK og_y_Grammar_fact og_c_Grammar_fact 2 2 (5 + 80) [8, 0] m_Grammar_fact := (ok_gr 80).2.2.1
def m_Grammar_comparison : og_Dn := m_gr 80 3
theorem ok_Grammar_comparison : og_MOK og_y_Grammar_comparison og_c_Grammar_comparison 3 2 (5 + 80) [8, 0] m_Grammar_comparison := (ok_gr 80).2.2.2.1
def m_Grammar_sum : og_Dn := m_gr 80 4
theorem ok_Grammar_sum : og_MOK og_y_Grammar_sum og_c_Grammar_sum 4 2 (5 + 80) [8, 0] m_Grammar_sum := (ok_gr 80).2.2.2.2.1
def m_Grammar_product : og_Dn := m_gr 80 5
theorem ok_Grammar_product : og_MOK og_y_Grammar_product og_c_Grammar_product 4 2 (5 + 80) [8, 0] m_Grammar_product := (ok_gr 80).2.2.2.2.2.1
def m_Grammar_part : og_Dn := m_gr 80 6
theorem ok_Grammar_part : og_MOK og_y_Grammar_part og_c_Grammar_part 3 2 (5 + 80) [8, 0] m_Grammar_part := (ok_gr 80).2.2.2.2.2.2.1
def m_Grammar_pair : og_Dn := m_gr 80 7
theorem ok_Grammar_pair : og_MOK og_y_Grammar_pair og_c_Grammar_pair 3 2 (5 + 80) [8, 0, 0] m_Grammar_pair := (ok_gr 80).2.2.2.2.2.2.2
abbrev og_c_Script_finish : ByteArray := prog_9_method_5_code
abbrev og_y_Script_finish : MethodName := ⟨"OpenGraves$Script", "finish", "(I)V"⟩
theorem v_Script_finish {own : String} {idx dep : Nat} (h : 1 + 1 ≤ dep) : og_sV own idx og_y_Script_finish og_c_Script_finish 2 2 1 dep 11 1 := ⟨⟨10, og_sl_Script, og_T_Script, 4, rfl, by decide, rfl⟩, og_w645, og_w646, og_w4, og_w647, ⟨by decide +kernel, by decide +kernel, by decide +kernel⟩, h, by decide⟩
theorem d_Script_finish_0 : decode og_c_Script_finish 0 = .ok (.aload_n 0, 1) := by decide +kernel
theorem d_Script_finish_1 : decode og_c_Script_finish 1 = .ok (.getfield 18, 3) := by decide +kernel
theorem d_Script_finish_4 : decode og_c_Script_finish 4 = .ok (.iload_n 1, 1) := by decide +kernel
theorem d_Script_finish_5 : decode og_c_Script_finish 5 = .ok (.aload_n 0, 1) := by decide +kernel
theorem d_Script_finish_6 : decode og_c_Script_finish 6 = .ok (.getfield 21, 3) := by decide +kernel
theorem d_Script_finish_9 : decode og_c_Script_finish 9 = .ok (.iastore, 1) := by decide +kernel
theorem d_Script_finish_10 : decode og_c_Script_finish 10 = .ok (.return_, 1) := by decide +kernel
def m_Script_finish : og_Dn := og_den [15, 0] 2 2 (og_ast 14 (og_fix (fun i => i + 3) (og_loc 0)) (og_loc 1) (og_get 3 (og_loc 0)))
set_option maxRecDepth 20000 in
theorem ok_Script_finish : og_MOK og_y_Script_finish og_c_Script_finish 2 2 1 [15, 0] m_Script_finish := og_method (b := 10) (lt' := [(0, 15), (1, 0)]) (by decide +kernel) (by decide) (by decide) (og_iastore (N := 14) (og_f_Script_to (og_aload_n (i := 0) (t := 13) (j := 0) (by rfl) (by rfl) d_Script_finish_0) og_w135 d_Script_finish_1) (by rfl) (og_iload_n (i := 1) (j := 1) (by rfl) (by rfl) d_Script_finish_4) (og_f_Script_size (og_aload_n (i := 0) (t := 13) (j := 0) (by rfl) (by rfl) d_Script_finish_5) og_w137 d_Script_finish_6) d_Script_finish_9) (fun _ => d_Script_finish_10)
abbrev og_c_Grammar_readRule : ByteArray := prog_3_method_3_code
abbrev og_y_Grammar_readRule : MethodName := ⟨"OpenGraves$Grammar", "readRule", "(LOpenGraves$Script;IZ)V"⟩
theorem v_Grammar_readRule {own : String} {idx dep : Nat} (h : 86 + 1 ≤ dep) : og_sV own idx og_y_Grammar_readRule og_c_Grammar_readRule 4 2 86 dep 4 3 := ⟨⟨3, og_sl_Grammar, og_T_Grammar, 3, rfl, by decide, rfl⟩, og_w570, og_w571, og_w11, og_w572, ⟨by decide +kernel, by decide +kernel, by decide +kernel⟩, h, by decide⟩
theorem d_Grammar_readRule_0 : decode og_c_Grammar_readRule 0 = .ok (.aload_n 0, 1) := by decide +kernel
theorem d_Grammar_readRule_1 : decode og_c_Grammar_readRule 1 = .ok (.aload_n 1, 1) := by decide +kernel
theorem d_Grammar_readRule_2 : decode og_c_Grammar_readRule 2 = .ok (.putfield 15, 3) := by decide +kernel
theorem d_Grammar_readRule_5 : decode og_c_Grammar_readRule 5 = .ok (.aload_n 0, 1) := by decide +kernel
theorem d_Grammar_readRule_6 : decode og_c_Grammar_readRule 6 = .ok (.iload_n 2, 1) := by decide +kernel
theorem d_Grammar_readRule_7 : decode og_c_Grammar_readRule 7 = .ok (.putfield 52, 3) := by decide +kernel
theorem d_Grammar_readRule_10 : decode og_c_Grammar_readRule 10 = .ok (.aload_n 1, 1) := by decide +kernel
theorem d_Grammar_readRule_11 : decode og_c_Grammar_readRule 11 = .ok (.iload_n 2, 1) := by decide +kernel
theorem d_Grammar_readRule_12 : decode og_c_Grammar_readRule 12 = .ok (.invokevirtual 55, 3) := by decide +kernel
theorem d_Grammar_readRule_15 : decode og_c_Grammar_readRule 15 = .ok (.iload_n 3, 1) := by decide +kernel
theorem d_Grammar_readRule_16 : decode og_c_Grammar_readRule 16 = .ok (.ifCond .eq 11, 3) := by decide +kernel
theorem d_Grammar_readRule_19 : decode og_c_Grammar_readRule 19 = .ok (.aload_n 0, 1) := by decide +kernel
theorem d_Grammar_readRule_20 : decode og_c_Grammar_readRule 20 = .ok (.iconst 0, 1) := by decide +kernel
theorem d_Grammar_readRule_21 : decode og_c_Grammar_readRule 21 = .ok (.invokevirtual 57, 3) := by decide +kernel
theorem d_Grammar_readRule_24 : decode og_c_Grammar_readRule 24 = .ok (.goto 8, 3) := by decide +kernel
theorem d_Grammar_readRule_27 : decode og_c_Grammar_readRule 27 = .ok (.aload_n 0, 1) := by decide +kernel
theorem d_Grammar_readRule_28 : decode og_c_Grammar_readRule 28 = .ok (.iconst 0, 1) := by decide +kernel
theorem d_Grammar_readRule_29 : decode og_c_Grammar_readRule 29 = .ok (.invokevirtual 60, 3) := by decide +kernel
theorem d_Grammar_readRule_32 : decode og_c_Grammar_readRule 32 = .ok (.aload_n 1, 1) := by decide +kernel
theorem d_Grammar_readRule_33 : decode og_c_Grammar_readRule 33 = .ok (.iload_n 2, 1) := by decide +kernel
theorem d_Grammar_readRule_34 : decode og_c_Grammar_readRule 34 = .ok (.invokevirtual 63, 3) := by decide +kernel
theorem d_Grammar_readRule_37 : decode og_c_Grammar_readRule 37 = .ok (.return_, 1) := by decide +kernel
def m_Grammar_readRule : og_Dn := og_den [8, 15, 0, 0] 4 2 (og_seq (og_putf 1 (og_loc 0) (og_loc 1)) (og_seq (og_putf 2 (og_loc 0) (og_loc 2)) (og_seq (og_exp (og_call m_Script_begin [og_loc 1, og_loc 2])) (og_cut (og_if (og_cb (og_loc 3)) (og_exp (og_call m_Grammar_test [og_loc 0, og_k 0])) (og_exp (og_call m_Grammar_sum [og_loc 0, og_k 0]))) (og_exp (og_call m_Script_finish [og_loc 1, og_loc 2]))))))
set_option maxRecDepth 20000 in
theorem ok_Grammar_readRule : og_MOK og_y_Grammar_readRule og_c_Grammar_readRule 4 2 86 [8, 15, 0, 0] m_Grammar_readRule := og_method (b := 37) (lt' := [(0, 8), (1, 15), (2, 0), (3, 0)]) (by decide +kernel) (by decide) (by decide) (og_sseq (og_p_Grammar_script (og_aload_n (i := 0) (t := 6) (j := 0) (by rfl) (by rfl) d_Grammar_readRule_0) (og_aload_n (i := 1) (t := 13) (j := 1) (by rfl) (by rfl) d_Grammar_readRule_1) og_w277 d_Grammar_readRule_2) (og_sseq (og_p_Grammar_purpose (og_aload_n (i := 0) (t := 6) (j := 0) (by rfl) (by rfl) d_Grammar_readRule_5) (og_iload_n (i := 2) (j := 2) (by rfl) (by rfl) d_Grammar_readRule_6) og_w278 d_Grammar_readRule_7) (og_sseq (og_callVv (og_acons (og_aload_n (i := 1) (t := 13) (j := 1) (by rfl) (by rfl) d_Grammar_readRule_10) (og_acons (og_iload_n (i := 2) (j := 2) (by rfl) (by rfl) d_Grammar_readRule_11) (og_anil))) ok_Script_begin (v_Script_begin (by decide)) og_w573 d_Grammar_readRule_12) (og_scut (og_sif (T := 19) (F := 27) (og_cbeq (tgt := 27) (og_iload_n (i := 3) (j := 3) (by rfl) (by rfl) d_Grammar_readRule_15) d_Grammar_readRule_16 (by decide)) (og_gS (b' := 32) (og_callVv (og_acons (og_aload_n (i := 0) (t := 6) (j := 0) (by rfl) (by rfl) d_Grammar_readRule_19) (og_acons (og_iconst (by decide) d_Grammar_readRule_20) (og_anil))) ok_Grammar_test (v_Grammar_test (by decide)) og_w577 d_Grammar_readRule_21) d_Grammar_readRule_24 (by decide)) (og_callVv (og_acons (og_aload_n (i := 0) (t := 6) (j := 0) (by rfl) (by rfl) d_Grammar_readRule_27) (og_acons (og_iconst (by decide) d_Grammar_readRule_28) (og_anil))) ok_Grammar_sum (v_Grammar_sum (by decide)) og_w618 d_Grammar_readRule_29)) (og_callVv (og_acons (og_aload_n (i := 1) (t := 13) (j := 1) (by rfl) (by rfl) d_Grammar_readRule_32) (og_acons (og_iload_n (i := 2) (j := 2) (by rfl) (by rfl) d_Grammar_readRule_33) (og_anil))) ok_Script_finish (v_Script_finish (by decide)) og_w644 d_Grammar_readRule_34))))) (fun _ => d_Grammar_readRule_37)
abbrev og_c_Parish_readStatement : ByteArray := prog_5_method_4_code
abbrev og_y_Parish_readStatement : MethodName := ⟨"OpenGraves$Parish", "readStatement", "(LOpenGraves$Tokens;LOpenGraves$Grammar;)V"⟩
theorem v_Parish_readStatement {own : String} {idx dep : Nat} (h : 87 + 1 ≤ dep) : og_sV own idx og_y_Parish_readStatement og_c_Parish_readStatement 4 2 87 dep 10 2 := ⟨⟨9, og_sl_Parish, og_T_Parish, 3, rfl, by decide, rfl⟩, og_w512, (og_memP (⟨"OpenGraves$Parish", "readStatement", "(LOpenGraves$Tokens;LOpenGraves$Grammar;)V"⟩, 3) (List.mem_of_getElem? (i := 4) (by decide +kernel))), og_w2, og_w513, ⟨by decide +kernel, by decide +kernel, by decide +kernel⟩, h, by decide⟩
theorem d_Parish_readStatement_0 : decode og_c_Parish_readStatement 0 = .ok (.aload_n 1, 1) := by decide +kernel
theorem d_Parish_readStatement_1 : decode og_c_Parish_readStatement 1 = .ok (.invokevirtual 57, 3) := by decide +kernel
theorem d_Parish_readStatement_4 : decode og_c_Parish_readStatement 4 = .ok (.istore_n 3, 1) := by decide +kernel
theorem d_Parish_readStatement_5 : decode og_c_Parish_readStatement 5 = .ok (.iload_n 3, 1) := by decide +kernel
theorem d_Parish_readStatement_6 : decode og_c_Parish_readStatement 6 = .ok (.ifCond .eq 28, 3) := by decide +kernel
theorem d_Parish_readStatement_9 : decode og_c_Parish_readStatement 9 = .ok (.iload_n 3, 1) := by decide +kernel
theorem d_Parish_readStatement_10 : decode og_c_Parish_readStatement 10 = .ok (.iconst 4, 1) := by decide +kernel
theorem d_Parish_readStatement_11 : decode og_c_Parish_readStatement 11 = .ok (.if_icmp .eq 23, 3) := by decide +kernel
theorem d_Parish_readStatement_14 : decode og_c_Parish_readStatement 14 = .ok (.iload_n 3, 1) := by decide +kernel
theorem d_Parish_readStatement_15 : decode og_c_Parish_readStatement 15 = .ok (.bipush 8, 2) := by decide +kernel
theorem d_Parish_readStatement_17 : decode og_c_Parish_readStatement 17 = .ok (.if_icmp .lt 9, 3) := by decide +kernel
theorem d_Parish_readStatement_20 : decode og_c_Parish_readStatement 20 = .ok (.iload_n 3, 1) := by decide +kernel
theorem d_Parish_readStatement_21 : decode og_c_Parish_readStatement 21 = .ok (.bipush 12, 2) := by decide +kernel
theorem d_Parish_readStatement_23 : decode og_c_Parish_readStatement 23 = .ok (.if_icmp .le 11, 3) := by decide +kernel
theorem d_Parish_readStatement_26 : decode og_c_Parish_readStatement 26 = .ok (.aload_n 1, 1) := by decide +kernel
theorem d_Parish_readStatement_27 : decode og_c_Parish_readStatement 27 = .ok (.iconst 1, 1) := by decide +kernel
theorem d_Parish_readStatement_28 : decode og_c_Parish_readStatement 28 = .ok (.invokevirtual 61, 3) := by decide +kernel
theorem d_Parish_readStatement_31 : decode og_c_Parish_readStatement 31 = .ok (.goto 82, 3) := by decide +kernel
theorem d_Parish_readStatement_34 : decode og_c_Parish_readStatement 34 = .ok (.aload_n 0, 1) := by decide +kernel
theorem d_Parish_readStatement_35 : decode og_c_Parish_readStatement 35 = .ok (.iload_n 3, 1) := by decide +kernel
theorem d_Parish_readStatement_36 : decode og_c_Parish_readStatement 36 = .ok (.invokevirtual 64, 3) := by decide +kernel
theorem d_Parish_readStatement_39 : decode og_c_Parish_readStatement 39 = .ok (.ifCond .eq 11, 3) := by decide +kernel
theorem d_Parish_readStatement_42 : decode og_c_Parish_readStatement 42 = .ok (.aload_n 1, 1) := by decide +kernel
theorem d_Parish_readStatement_43 : decode og_c_Parish_readStatement 43 = .ok (.iconst 5, 1) := by decide +kernel
theorem d_Parish_readStatement_44 : decode og_c_Parish_readStatement 44 = .ok (.invokevirtual 61, 3) := by decide +kernel
theorem d_Parish_readStatement_47 : decode og_c_Parish_readStatement 47 = .ok (.goto 66, 3) := by decide +kernel
theorem d_Parish_readStatement_50 : decode og_c_Parish_readStatement 50 = .ok (.aload_n 1, 1) := by decide +kernel
theorem d_Parish_readStatement_51 : decode og_c_Parish_readStatement 51 = .ok (.invokevirtual 68, 3) := by decide +kernel
theorem d_Parish_readStatement_54 : decode og_c_Parish_readStatement 54 = .ok (.iload_n 3, 1) := by decide +kernel
theorem d_Parish_readStatement_55 : decode og_c_Parish_readStatement 55 = .ok (.ifCond .ne 18, 3) := by decide +kernel
theorem d_Parish_readStatement_58 : decode og_c_Parish_readStatement 58 = .ok (.aload_n 0, 1) := by decide +kernel
theorem d_Parish_readStatement_59 : decode og_c_Parish_readStatement 59 = .ok (.aload_n 1, 1) := by decide +kernel
theorem d_Parish_readStatement_60 : decode og_c_Parish_readStatement 60 = .ok (.aload_n 0, 1) := by decide +kernel
theorem d_Parish_readStatement_61 : decode og_c_Parish_readStatement 61 = .ok (.getfield 12, 3) := by decide +kernel
theorem d_Parish_readStatement_64 : decode og_c_Parish_readStatement 64 = .ok (.getfield 71, 3) := by decide +kernel
theorem d_Parish_readStatement_67 : decode og_c_Parish_readStatement 67 = .ok (.invokevirtual 74, 3) := by decide +kernel
theorem d_Parish_readStatement_70 : decode og_c_Parish_readStatement 70 = .ok (.goto 43, 3) := by decide +kernel
theorem d_Parish_readStatement_73 : decode og_c_Parish_readStatement 73 = .ok (.iload_n 3, 1) := by decide +kernel
theorem d_Parish_readStatement_74 : decode og_c_Parish_readStatement 74 = .ok (.iconst 4, 1) := by decide +kernel
theorem d_Parish_readStatement_75 : decode og_c_Parish_readStatement 75 = .ok (.if_icmp .ne 18, 3) := by decide +kernel
theorem d_Parish_readStatement_78 : decode og_c_Parish_readStatement 78 = .ok (.aload_n 0, 1) := by decide +kernel
theorem d_Parish_readStatement_79 : decode og_c_Parish_readStatement 79 = .ok (.aload_n 1, 1) := by decide +kernel
theorem d_Parish_readStatement_80 : decode og_c_Parish_readStatement 80 = .ok (.aload_n 0, 1) := by decide +kernel
theorem d_Parish_readStatement_81 : decode og_c_Parish_readStatement 81 = .ok (.getfield 12, 3) := by decide +kernel
theorem d_Parish_readStatement_84 : decode og_c_Parish_readStatement 84 = .ok (.getfield 78, 3) := by decide +kernel
theorem d_Parish_readStatement_87 : decode og_c_Parish_readStatement 87 = .ok (.invokevirtual 81, 3) := by decide +kernel
theorem d_Parish_readStatement_90 : decode og_c_Parish_readStatement 90 = .ok (.goto 23, 3) := by decide +kernel
theorem d_Parish_readStatement_93 : decode og_c_Parish_readStatement 93 = .ok (.aload_n 2, 1) := by decide +kernel
theorem d_Parish_readStatement_94 : decode og_c_Parish_readStatement 94 = .ok (.aload_n 0, 1) := by decide +kernel
theorem d_Parish_readStatement_95 : decode og_c_Parish_readStatement 95 = .ok (.getfield 21, 3) := by decide +kernel
theorem d_Parish_readStatement_98 : decode og_c_Parish_readStatement 98 = .ok (.iload_n 3, 1) := by decide +kernel
theorem d_Parish_readStatement_99 : decode og_c_Parish_readStatement 99 = .ok (.iload_n 3, 1) := by decide +kernel
theorem d_Parish_readStatement_100 : decode og_c_Parish_readStatement 100 = .ok (.bipush 9, 2) := by decide +kernel
theorem d_Parish_readStatement_102 : decode og_c_Parish_readStatement 102 = .ok (.if_icmp .ne 7, 3) := by decide +kernel
theorem d_Parish_readStatement_105 : decode og_c_Parish_readStatement 105 = .ok (.iconst 1, 1) := by decide +kernel
theorem d_Parish_readStatement_106 : decode og_c_Parish_readStatement 106 = .ok (.goto 4, 3) := by decide +kernel
theorem d_Parish_readStatement_109 : decode og_c_Parish_readStatement 109 = .ok (.iconst 0, 1) := by decide +kernel
theorem d_Parish_readStatement_110 : decode og_c_Parish_readStatement 110 = .ok (.invokevirtual 84, 3) := by decide +kernel
theorem d_Parish_readStatement_113 : decode og_c_Parish_readStatement 113 = .ok (.return_, 1) := by decide +kernel
def m_Parish_readStatement : og_Dn := og_den [14, 7, 8] 4 2 (og_seq (og_set 3 (og_call m_Tokens_word [og_loc 1])) (og_if (og_and (og_and (og_cc og_rne (og_loc 3) (og_k 0)) (og_cc og_rne (og_loc 3) (og_k 4))) (og_or (og_cc og_rlt (og_loc 3) (og_k 8)) (og_cc og_rgt (og_loc 3) (og_k 12)))) (og_exp (og_call m_Tokens_fail [og_loc 1, og_k 1])) (og_if (og_cb (og_call m_Parish_isOneTooMany [og_loc 0, og_loc 3])) (og_exp (og_call m_Tokens_fail [og_loc 1, og_k 5])) (og_seq (og_exp (og_call m_Tokens_step [og_loc 1])) (og_if (og_cc og_req (og_loc 3) (og_k 0)) (og_exp (og_call m_Parish_readGrave [og_loc 0, og_loc 1, og_get 0 (og_fix (fun i => i + 90) (og_loc 0))])) (og_if (og_cc og_req (og_loc 3) (og_k 4)) (og_exp (og_call m_Parish_readPerson [og_loc 0, og_loc 1, og_get 1 (og_fix (fun i => i + 90) (og_loc 0))])) (og_exp (og_call m_Grammar_readRule [og_loc 2, og_fix (fun i => i + 2) (og_loc 0), og_loc 3, og_ec (og_cc og_req (og_loc 3) (og_k 9))]))))))))
set_option maxRecDepth 20000 in
theorem ok_Parish_readStatement : og_MOK og_y_Parish_readStatement og_c_Parish_readStatement 4 2 87 [14, 7, 8] m_Parish_readStatement := og_method (b := 113) (lt' := [(0, 14), (1, 7), (2, 8)]) (by decide +kernel) (by decide) (by decide) (og_sdrop (lt' := [(0, 14), (1, 7), (2, 8), (3, 0)]) (lt2 := [(0, 14), (1, 7), (2, 8)]) (og_sseq (og_istore_n (i := 3) (lt' := [(0, 14), (1, 7), (2, 8), (3, 0)]) (og_callVi (og_acons (og_aload_n (i := 1) (t := 5) (j := 1) (by rfl) (by rfl) d_Parish_readStatement_0) (og_anil)) (by decide) ok_Tokens_word (v_Tokens_word (by decide)) og_w514 d_Parish_readStatement_1) (by rfl) (by decide) (by decide) d_Parish_readStatement_4) (og_sif (T := 26) (F := 34) (og_cand (og_cand (og_ccn og_n_ne (og_zeq (tgt := 34) (og_iload_n (i := 3) (j := 3) (by rfl) (by rfl) d_Parish_readStatement_5) d_Parish_readStatement_6 (by decide))) (og_ccn og_n_ne (og_ieq (tgt := 34) (og_iload_n (i := 3) (j := 3) (by rfl) (by rfl) d_Parish_readStatement_9) (og_iconst (by decide) d_Parish_readStatement_10) d_Parish_readStatement_11 (by decide)))) (og_cor (og_ilt (tgt := 26) (og_iload_n (i := 3) (j := 3) (by rfl) (by rfl) d_Parish_readStatement_14) (og_bipush (by decide) d_Parish_readStatement_15) d_Parish_readStatement_17 (by decide)) (og_ccn og_n_gt (og_ile (tgt := 34) (og_iload_n (i := 3) (j := 3) (by rfl) (by rfl) d_Parish_readStatement_20) (og_bipush (by decide) d_Parish_readStatement_21) d_Parish_readStatement_23 (by decide))))) (og_gS (b' := 113) (og_callVv (og_acons (og_aload_n (i := 1) (t := 5) (j := 1) (by rfl) (by rfl) d_Parish_readStatement_26) (og_acons (og_iconst (by decide) d_Parish_readStatement_27) (og_anil))) ok_Tokens_fail (v_Tokens_fail (by decide)) og_w518 d_Parish_readStatement_28) d_Parish_readStatement_31 (by decide)) (og_sif (T := 42) (F := 50) (og_cbeq (tgt := 50) (og_callVz (og_acons (og_aload_n (i := 0) (t := 12) (j := 0) (by rfl) (by rfl) d_Parish_readStatement_34) (og_acons (og_iload_n (i := 3) (j := 3) (by rfl) (by rfl) d_Parish_readStatement_35) (og_anil))) (by decide) ok_Parish_isOneTooMany (v_Parish_isOneTooMany (by decide)) og_w526 d_Parish_readStatement_36) d_Parish_readStatement_39 (by decide)) (og_gS (b' := 113) (og_callVv (og_acons (og_aload_n (i := 1) (t := 5) (j := 1) (by rfl) (by rfl) d_Parish_readStatement_42) (og_acons (og_iconst (by decide) d_Parish_readStatement_43) (og_anil))) ok_Tokens_fail (v_Tokens_fail (by decide)) og_w518 d_Parish_readStatement_44) d_Parish_readStatement_47 (by decide)) (og_sseq (og_callVv (og_acons (og_aload_n (i := 1) (t := 5) (j := 1) (by rfl) (by rfl) d_Parish_readStatement_50) (og_anil)) ok_Tokens_step (v_Tokens_step (by decide)) og_w534 d_Parish_readStatement_51) (og_sif (T := 58) (F := 73) (og_ccn og_n_eq (og_zne (tgt := 73) (og_iload_n (i := 3) (j := 3) (by rfl) (by rfl) d_Parish_readStatement_54) d_Parish_readStatement_55 (by decide))) (og_gS (b' := 113) (og_callVv (og_acons (og_aload_n (i := 0) (t := 12) (j := 0) (by rfl) (by rfl) d_Parish_readStatement_58) (og_acons (og_aload_n (i := 1) (t := 5) (j := 1) (by rfl) (by rfl) d_Parish_readStatement_59) (og_acons (og_f_Yard_graves_N (og_f_Parish_beginning (og_aload_n (i := 0) (t := 12) (j := 0) (by rfl) (by rfl) d_Parish_readStatement_60) og_w147 d_Parish_readStatement_61) og_w44 d_Parish_readStatement_64) (og_anil)))) ok_Parish_readGrave (v_Parish_readGrave (by decide)) og_w535 d_Parish_readStatement_67) d_Parish_readStatement_70 (by decide)) (og_sif (T := 78) (F := 93) (og_ccn og_n_eq (og_ine (tgt := 93) (og_iload_n (i := 3) (j := 3) (by rfl) (by rfl) d_Parish_readStatement_73) (og_iconst (by decide) d_Parish_readStatement_74) d_Parish_readStatement_75 (by decide))) (og_gS (b' := 113) (og_callVv (og_acons (og_aload_n (i := 0) (t := 12) (j := 0) (by rfl) (by rfl) d_Parish_readStatement_78) (og_acons (og_aload_n (i := 1) (t := 5) (j := 1) (by rfl) (by rfl) d_Parish_readStatement_79) (og_acons (og_f_Yard_people_N (og_f_Parish_beginning (og_aload_n (i := 0) (t := 12) (j := 0) (by rfl) (by rfl) d_Parish_readStatement_80) og_w147 d_Parish_readStatement_81) og_w51 d_Parish_readStatement_84) (og_anil)))) ok_Parish_readPerson (v_Parish_readPerson (by decide)) og_w565 d_Parish_readStatement_87) d_Parish_readStatement_90 (by decide)) (og_callVv (og_acons (og_aload_n (i := 2) (t := 6) (j := 2) (by rfl) (by rfl) d_Parish_readStatement_93) (og_acons (og_f_Parish_rules (og_aload_n (i := 0) (t := 12) (j := 0) (by rfl) (by rfl) d_Parish_readStatement_94) og_w149 d_Parish_readStatement_95) (og_acons (og_iload_n (i := 3) (j := 3) (by rfl) (by rfl) d_Parish_readStatement_98) (og_acons (og_econd (b := 0) (og_ccn og_n_eq (og_ine (tgt := 109) (og_iload_n (i := 3) (j := 3) (by rfl) (by rfl) d_Parish_readStatement_99) (og_bipush (by decide) d_Parish_readStatement_100) d_Parish_readStatement_102 (by decide))) d_Parish_readStatement_105 d_Parish_readStatement_106 (by decide) d_Parish_readStatement_109 (by rfl)) (og_anil))))) ok_Grammar_readRule (v_Grammar_readRule (by decide)) og_w569 d_Parish_readStatement_110))))))) (by decide)) (fun _ => d_Parish_readStatement_113)
abbrev og_c_Parish_addJoined : ByteArray := prog_5_method_12_code
abbrev og_y_Parish_addJoined : MethodName := ⟨"OpenGraves$Parish", "addJoined", "(III)V"⟩
theorem v_Parish_addJoined {own : String} {idx dep : Nat} (h : 3 + 1 ≤ dep) : og_sV own idx og_y_Parish_addJoined og_c_Parish_addJoined 4 2 3 dep 10 3 := ⟨⟨9, og_sl_Parish, og_T_Parish, 3, rfl, by decide, rfl⟩, og_w660, (og_memP (⟨"OpenGraves$Parish", "addJoined", "(III)V"⟩, 3) (List.mem_of_getElem? (i := 22) (by decide +kernel))), og_w2, og_w661, ⟨by decide +kernel, by decide +kernel, by decide +kernel⟩, h, by decide⟩
theorem d_Parish_addJoined_0 : decode og_c_Parish_addJoined 0 = .ok (.aload_n 0, 1) := by decide +kernel
theorem d_Parish_addJoined_1 : decode og_c_Parish_addJoined 1 = .ok (.getfield 21, 3) := by decide +kernel
theorem d_Parish_addJoined_4 : decode og_c_Parish_addJoined 4 = .ok (.iload_n 1, 1) := by decide +kernel
theorem d_Parish_addJoined_5 : decode og_c_Parish_addJoined 5 = .ok (.invokevirtual 161, 3) := by decide +kernel
theorem d_Parish_addJoined_8 : decode og_c_Parish_addJoined 8 = .ok (.aload_n 0, 1) := by decide +kernel
theorem d_Parish_addJoined_9 : decode og_c_Parish_addJoined 9 = .ok (.getfield 21, 3) := by decide +kernel
theorem d_Parish_addJoined_12 : decode og_c_Parish_addJoined 12 = .ok (.iload_n 2, 1) := by decide +kernel
theorem d_Parish_addJoined_13 : decode og_c_Parish_addJoined 13 = .ok (.invokevirtual 161, 3) := by decide +kernel
theorem d_Parish_addJoined_16 : decode og_c_Parish_addJoined 16 = .ok (.aload_n 0, 1) := by decide +kernel
theorem d_Parish_addJoined_17 : decode og_c_Parish_addJoined 17 = .ok (.getfield 21, 3) := by decide +kernel
theorem d_Parish_addJoined_20 : decode og_c_Parish_addJoined 20 = .ok (.iload_n 3, 1) := by decide +kernel
theorem d_Parish_addJoined_21 : decode og_c_Parish_addJoined 21 = .ok (.invokevirtual 158, 3) := by decide +kernel
theorem d_Parish_addJoined_24 : decode og_c_Parish_addJoined 24 = .ok (.return_, 1) := by decide +kernel
def m_Parish_addJoined : og_Dn := og_den [14, 0, 0, 0] 4 2 (og_seq (og_exp (og_call m_Script_addNumber [og_fix (fun i => i + 2) (og_loc 0), og_loc 1])) (og_seq (og_exp (og_call m_Script_addNumber [og_fix (fun i => i + 2) (og_loc 0), og_loc 2])) (og_exp (og_call m_Script_addDeed [og_fix (fun i => i + 2) (og_loc 0), og_loc 3]))))
set_option maxRecDepth 20000 in
theorem ok_Parish_addJoined : og_MOK og_y_Parish_addJoined og_c_Parish_addJoined 4 2 3 [14, 0, 0, 0] m_Parish_addJoined := og_method (b := 24) (lt' := [(0, 14), (1, 0), (2, 0), (3, 0)]) (by decide +kernel) (by decide) (by decide) (og_sseq (og_callVv (og_acons (og_f_Parish_rules (og_aload_n (i := 0) (t := 12) (j := 0) (by rfl) (by rfl) d_Parish_addJoined_0) og_w149 d_Parish_addJoined_1) (og_acons (og_iload_n (i := 1) (j := 1) (by rfl) (by rfl) d_Parish_addJoined_4) (og_anil))) ok_Script_addNumber (v_Script_addNumber (by decide)) og_w662 d_Parish_addJoined_5) (og_sseq (og_callVv (og_acons (og_f_Parish_rules (og_aload_n (i := 0) (t := 12) (j := 0) (by rfl) (by rfl) d_Parish_addJoined_8) og_w149 d_Parish_addJoined_9) (og_acons (og_iload_n (i := 2) (j := 2) (by rfl) (by rfl) d_Parish_addJoined_12) (og_anil))) ok_Script_addNumber (v_Script_addNumber (by decide)) og_w662 d_Parish_addJoined_13) (og_callVv (og_acons (og_f_Parish_rules (og_aload_n (i := 0) (t := 12) (j := 0) (by rfl) (by rfl) d_Parish_addJoined_16) og_w149 d_Parish_addJoined_17) (og_acons (og_iload_n (i := 3) (j := 3) (by rfl) (by rfl) d_Parish_addJoined_20) (og_anil))) ok_Script_addDeed (v_Script_addDeed (by decide)) og_w663 d_Parish_addJoined_21))) (fun _ => d_Parish_addJoined_24)
abbrev og_c_Parish_addUsualRule : ByteArray := prog_5_method_11_code
abbrev og_y_Parish_addUsualRule : MethodName := ⟨"OpenGraves$Parish", "addUsualRule", "(I)V"⟩
theorem v_Parish_addUsualRule {own : String} {idx dep : Nat} (h : 4 + 1 ≤ dep) : og_sV own idx og_y_Parish_addUsualRule og_c_Parish_addUsualRule 2 2 4 dep 10 1 := ⟨⟨9, og_sl_Parish, og_T_Parish, 3, rfl, by decide, rfl⟩, og_w656, (og_memP (⟨"OpenGraves$Parish", "addUsualRule", "(I)V"⟩, 3) (List.mem_of_getElem? (i := 21) (by decide +kernel))), og_w2, og_w657, ⟨by decide +kernel, by decide +kernel, by decide +kernel⟩, h, by decide⟩
theorem d_Parish_addUsualRule_0 : decode og_c_Parish_addUsualRule 0 = .ok (.iload_n 1, 1) := by decide +kernel
theorem d_Parish_addUsualRule_1 : decode og_c_Parish_addUsualRule 1 = .ok (.tableswitch 74 8 12 #[35, 48, 74, 74, 61], 35) := by decide +kernel
theorem d_Parish_addUsualRule_36 : decode og_c_Parish_addUsualRule 36 = .ok (.aload_n 0, 1) := by decide +kernel
theorem d_Parish_addUsualRule_37 : decode og_c_Parish_addUsualRule 37 = .ok (.bipush (-7), 2) := by decide +kernel
theorem d_Parish_addUsualRule_39 : decode og_c_Parish_addUsualRule 39 = .ok (.bipush 10, 2) := by decide +kernel
theorem d_Parish_addUsualRule_41 : decode og_c_Parish_addUsualRule 41 = .ok (.bipush 47, 2) := by decide +kernel
theorem d_Parish_addUsualRule_43 : decode og_c_Parish_addUsualRule 43 = .ok (.invokevirtual 154, 3) := by decide +kernel
theorem d_Parish_addUsualRule_46 : decode og_c_Parish_addUsualRule 46 = .ok (.goto 49, 3) := by decide +kernel
theorem d_Parish_addUsualRule_49 : decode og_c_Parish_addUsualRule 49 = .ok (.aload_n 0, 1) := by decide +kernel
theorem d_Parish_addUsualRule_50 : decode og_c_Parish_addUsualRule 50 = .ok (.bipush (-8), 2) := by decide +kernel
theorem d_Parish_addUsualRule_52 : decode og_c_Parish_addUsualRule 52 = .ok (.bipush 8, 2) := by decide +kernel
theorem d_Parish_addUsualRule_54 : decode og_c_Parish_addUsualRule 54 = .ok (.bipush 62, 2) := by decide +kernel
theorem d_Parish_addUsualRule_56 : decode og_c_Parish_addUsualRule 56 = .ok (.invokevirtual 154, 3) := by decide +kernel
theorem d_Parish_addUsualRule_59 : decode og_c_Parish_addUsualRule 59 = .ok (.goto 36, 3) := by decide +kernel
theorem d_Parish_addUsualRule_62 : decode og_c_Parish_addUsualRule 62 = .ok (.aload_n 0, 1) := by decide +kernel
theorem d_Parish_addUsualRule_63 : decode og_c_Parish_addUsualRule 63 = .ok (.bipush 9, 2) := by decide +kernel
theorem d_Parish_addUsualRule_65 : decode og_c_Parish_addUsualRule 65 = .ok (.bipush (-8), 2) := by decide +kernel
theorem d_Parish_addUsualRule_67 : decode og_c_Parish_addUsualRule 67 = .ok (.bipush 45, 2) := by decide +kernel
theorem d_Parish_addUsualRule_69 : decode og_c_Parish_addUsualRule 69 = .ok (.invokevirtual 154, 3) := by decide +kernel
theorem d_Parish_addUsualRule_72 : decode og_c_Parish_addUsualRule 72 = .ok (.goto 23, 3) := by decide +kernel
theorem d_Parish_addUsualRule_75 : decode og_c_Parish_addUsualRule 75 = .ok (.aload_n 0, 1) := by decide +kernel
theorem d_Parish_addUsualRule_76 : decode og_c_Parish_addUsualRule 76 = .ok (.getfield 21, 3) := by decide +kernel
theorem d_Parish_addUsualRule_79 : decode og_c_Parish_addUsualRule 79 = .ok (.iload_n 1, 1) := by decide +kernel
theorem d_Parish_addUsualRule_80 : decode og_c_Parish_addUsualRule 80 = .ok (.bipush 10, 2) := by decide +kernel
theorem d_Parish_addUsualRule_82 : decode og_c_Parish_addUsualRule 82 = .ok (.if_icmp .ne 8, 3) := by decide +kernel
theorem d_Parish_addUsualRule_85 : decode og_c_Parish_addUsualRule 85 = .ok (.bipush 6, 2) := by decide +kernel
theorem d_Parish_addUsualRule_87 : decode og_c_Parish_addUsualRule 87 = .ok (.goto 5, 3) := by decide +kernel
theorem d_Parish_addUsualRule_90 : decode og_c_Parish_addUsualRule 90 = .ok (.bipush 7, 2) := by decide +kernel
theorem d_Parish_addUsualRule_92 : decode og_c_Parish_addUsualRule 92 = .ok (.invokevirtual 158, 3) := by decide +kernel
theorem d_Parish_addUsualRule_95 : decode og_c_Parish_addUsualRule 95 = .ok (.return_, 1) := by decide +kernel
def m_Parish_addUsualRule : og_Dn := og_den [14, 0] 2 2 (og_sw (og_loc 1) (fun x => og_cs x [8] (og_seq (og_exp (og_call m_Parish_addJoined [og_loc 0, og_k (-7), og_k 10, og_k 47])) (og_brk)) (og_cs x [9] (og_seq (og_exp (og_call m_Parish_addJoined [og_loc 0, og_k (-8), og_k 8, og_k 62])) (og_brk)) (og_cs x [12] (og_seq (og_exp (og_call m_Parish_addJoined [og_loc 0, og_k 9, og_k (-8), og_k 45])) (og_brk)) (og_seq (og_exp (og_call m_Script_addDeed [og_fix (fun i => i + 2) (og_loc 0), og_ei (og_cc og_req (og_loc 1) (og_k 10)) (og_k 6) (og_k 7)])) (og_brk))))))
set_option maxRecDepth 20000 in
theorem ok_Parish_addUsualRule : og_MOK og_y_Parish_addUsualRule og_c_Parish_addUsualRule 2 2 4 [14, 0] m_Parish_addUsualRule := og_method (b := 95) (lt' := [(0, 14), (1, 0)]) (by decide +kernel) (by decide) (by decide) (og_stab (b1 := 95) (d := 75) (cs := [(8, 36), (9, 49), (12, 62)]) (og_iload_n (i := 1) (j := 1) (by rfl) (by rfl) d_Parish_addUsualRule_0) d_Parish_addUsualRule_1 (by decide) (by decide) (fun x => og_scs (fun hx => og_sat (by simp at hx; subst hx; rfl) (og_sseq (og_gS (b' := 95) (og_callVv (og_acons (og_aload_n (i := 0) (t := 12) (j := 0) (by rfl) (by rfl) d_Parish_addUsualRule_36) (og_acons (og_bipush (by decide) d_Parish_addUsualRule_37) (og_acons (og_bipush (by decide) d_Parish_addUsualRule_39) (og_acons (og_bipush (by decide) d_Parish_addUsualRule_41) (og_anil))))) ok_Parish_addJoined (v_Parish_addJoined (by decide)) og_w658 d_Parish_addUsualRule_43) d_Parish_addUsualRule_46 (by decide)) (og_sbrk (by decide)))) (fun hx => og_scs (fun hx => og_sat (by simp at hx; subst hx; rfl) (og_sseq (og_gS (b' := 95) (og_callVv (og_acons (og_aload_n (i := 0) (t := 12) (j := 0) (by rfl) (by rfl) d_Parish_addUsualRule_49) (og_acons (og_bipush (by decide) d_Parish_addUsualRule_50) (og_acons (og_bipush (by decide) d_Parish_addUsualRule_52) (og_acons (og_bipush (by decide) d_Parish_addUsualRule_54) (og_anil))))) ok_Parish_addJoined (v_Parish_addJoined (by decide)) og_w658 d_Parish_addUsualRule_56) d_Parish_addUsualRule_59 (by decide)) (og_sbrk (by decide)))) (fun hx => og_scs (fun hx => og_sat (by simp at hx; subst hx; rfl) (og_sseq (og_gS (b' := 95) (og_callVv (og_acons (og_aload_n (i := 0) (t := 12) (j := 0) (by rfl) (by rfl) d_Parish_addUsualRule_62) (og_acons (og_bipush (by decide) d_Parish_addUsualRule_63) (og_acons (og_bipush (by decide) d_Parish_addUsualRule_65) (og_acons (og_bipush (by decide) d_Parish_addUsualRule_67) (og_anil))))) ok_Parish_addJoined (v_Parish_addJoined (by decide)) og_w658 d_Parish_addUsualRule_69) d_Parish_addUsualRule_72 (by decide)) (og_sbrk (by decide)))) (fun hx => og_sat (og_lkn (by simp_all)) (og_sseq (og_callVv (og_acons (og_f_Parish_rules (og_aload_n (i := 0) (t := 12) (j := 0) (by rfl) (by rfl) d_Parish_addUsualRule_75) og_w149 d_Parish_addUsualRule_76) (og_acons (og_eite (og_ccn og_n_eq (og_ine (tgt := 90) (og_iload_n (i := 1) (j := 1) (by rfl) (by rfl) d_Parish_addUsualRule_79) (og_bipush (by decide) d_Parish_addUsualRule_80) d_Parish_addUsualRule_82 (by decide))) (og_bipush (by decide) d_Parish_addUsualRule_85) d_Parish_addUsualRule_87 (by decide) (og_bipush (by decide) d_Parish_addUsualRule_90)) (og_anil))) ok_Script_addDeed (v_Script_addDeed (by decide)) og_w663 d_Parish_addUsualRule_92) (og_sbrk (by decide)))))))) (fun _ => d_Parish_addUsualRule_95)
abbrev og_c_Parish_addMissingRules : ByteArray := prog_5_method_10_code
abbrev og_y_Parish_addMissingRules : MethodName := ⟨"OpenGraves$Parish", "addMissingRules", "()V"⟩
theorem v_Parish_addMissingRules {own : String} {idx dep : Nat} (h : 5 + 1 ≤ dep) : og_sV own idx og_y_Parish_addMissingRules og_c_Parish_addMissingRules 2 2 5 dep 10 0 := ⟨⟨9, og_sl_Parish, og_T_Parish, 3, rfl, by decide, rfl⟩, og_w651, (og_memP (⟨"OpenGraves$Parish", "addMissingRules", "()V"⟩, 3) (List.mem_of_getElem? (i := 20) (by decide +kernel))), og_w2, og_w652, ⟨by decide +kernel, by decide +kernel, by decide +kernel⟩, h, by decide⟩
theorem d_Parish_addMissingRules_0 : decode og_c_Parish_addMissingRules 0 = .ok (.bipush 8, 2) := by decide +kernel
theorem d_Parish_addMissingRules_2 : decode og_c_Parish_addMissingRules 2 = .ok (.istore_n 1, 1) := by decide +kernel
theorem d_Parish_addMissingRules_3 : decode og_c_Parish_addMissingRules 3 = .ok (.iload_n 1, 1) := by decide +kernel
theorem d_Parish_addMissingRules_4 : decode og_c_Parish_addMissingRules 4 = .ok (.bipush 12, 2) := by decide +kernel
theorem d_Parish_addMissingRules_6 : decode og_c_Parish_addMissingRules 6 = .ok (.if_icmp .gt 41, 3) := by decide +kernel
theorem d_Parish_addMissingRules_9 : decode og_c_Parish_addMissingRules 9 = .ok (.aload_n 0, 1) := by decide +kernel
theorem d_Parish_addMissingRules_10 : decode og_c_Parish_addMissingRules 10 = .ok (.getfield 21, 3) := by decide +kernel
theorem d_Parish_addMissingRules_13 : decode og_c_Parish_addMissingRules 13 = .ok (.iload_n 1, 1) := by decide +kernel
theorem d_Parish_addMissingRules_14 : decode og_c_Parish_addMissingRules 14 = .ok (.invokevirtual 90, 3) := by decide +kernel
theorem d_Parish_addMissingRules_17 : decode og_c_Parish_addMissingRules 17 = .ok (.ifCond .ne 24, 3) := by decide +kernel
theorem d_Parish_addMissingRules_20 : decode og_c_Parish_addMissingRules 20 = .ok (.aload_n 0, 1) := by decide +kernel
theorem d_Parish_addMissingRules_21 : decode og_c_Parish_addMissingRules 21 = .ok (.getfield 21, 3) := by decide +kernel
theorem d_Parish_addMissingRules_24 : decode og_c_Parish_addMissingRules 24 = .ok (.iload_n 1, 1) := by decide +kernel
theorem d_Parish_addMissingRules_25 : decode og_c_Parish_addMissingRules 25 = .ok (.invokevirtual 146, 3) := by decide +kernel
theorem d_Parish_addMissingRules_28 : decode og_c_Parish_addMissingRules 28 = .ok (.aload_n 0, 1) := by decide +kernel
theorem d_Parish_addMissingRules_29 : decode og_c_Parish_addMissingRules 29 = .ok (.iload_n 1, 1) := by decide +kernel
theorem d_Parish_addMissingRules_30 : decode og_c_Parish_addMissingRules 30 = .ok (.invokevirtual 148, 3) := by decide +kernel
theorem d_Parish_addMissingRules_33 : decode og_c_Parish_addMissingRules 33 = .ok (.aload_n 0, 1) := by decide +kernel
theorem d_Parish_addMissingRules_34 : decode og_c_Parish_addMissingRules 34 = .ok (.getfield 21, 3) := by decide +kernel
theorem d_Parish_addMissingRules_37 : decode og_c_Parish_addMissingRules 37 = .ok (.iload_n 1, 1) := by decide +kernel
theorem d_Parish_addMissingRules_38 : decode og_c_Parish_addMissingRules 38 = .ok (.invokevirtual 151, 3) := by decide +kernel
theorem d_Parish_addMissingRules_41 : decode og_c_Parish_addMissingRules 41 = .ok (.iinc 1 1, 3) := by decide +kernel
theorem d_Parish_addMissingRules_44 : decode og_c_Parish_addMissingRules 44 = .ok (.goto (-41), 3) := by decide +kernel
theorem d_Parish_addMissingRules_47 : decode og_c_Parish_addMissingRules 47 = .ok (.return_, 1) := by decide +kernel
def m_Parish_addMissingRules : og_Dn := og_den [14] 2 2 (og_seq (og_set 1 (og_k 8)) (og_while (og_cc og_rle (og_loc 1) (og_k 12)) (og_if (og_not (og_cb (og_call m_Script_holds [og_fix (fun i => i + 2) (og_loc 0), og_loc 1]))) (og_seq (og_exp (og_call m_Script_begin [og_fix (fun i => i + 2) (og_loc 0), og_loc 1])) (og_seq (og_exp (og_call m_Parish_addUsualRule [og_loc 0, og_loc 1])) (og_exp (og_call m_Script_finish [og_fix (fun i => i + 2) (og_loc 0), og_loc 1])))) (og_skip)) (og_inc 1 1)))
set_option maxRecDepth 20000 in
theorem ok_Parish_addMissingRules : og_MOK og_y_Parish_addMissingRules og_c_Parish_addMissingRules 2 2 5 [14] m_Parish_addMissingRules := og_method (b := 47) (lt' := [(0, 14)]) (by decide +kernel) (by decide) (by decide) (og_sdrop (lt' := [(0, 14), (1, 0)]) (lt2 := [(0, 14)]) (og_sseq (og_istore_n (i := 1) (lt' := [(0, 14), (1, 0)]) (og_bipush (by decide) d_Parish_addMissingRules_0) (by rfl) (by decide) (by decide) d_Parish_addMissingRules_2) (og_swhile (T := 9) (F := 47) (cp0 := 41) (og_ccn og_n_le (og_igt (tgt := 47) (og_iload_n (i := 1) (j := 1) (by rfl) (by rfl) d_Parish_addMissingRules_3) (og_bipush (by decide) d_Parish_addMissingRules_4) d_Parish_addMissingRules_6 (by decide))) (og_sif (T := 20) (F := 41) (og_cnot (og_cbne (tgt := 41) (og_callVz (og_acons (og_f_Parish_rules (og_aload_n (i := 0) (t := 12) (j := 0) (by rfl) (by rfl) d_Parish_addMissingRules_9) og_w149 d_Parish_addMissingRules_10) (og_acons (og_iload_n (i := 1) (j := 1) (by rfl) (by rfl) d_Parish_addMissingRules_13) (og_anil))) (by decide) ok_Script_holds (v_Script_holds (by decide)) og_w530 d_Parish_addMissingRules_14) d_Parish_addMissingRules_17 (by decide))) (og_sseq (og_callVv (og_acons (og_f_Parish_rules (og_aload_n (i := 0) (t := 12) (j := 0) (by rfl) (by rfl) d_Parish_addMissingRules_20) og_w149 d_Parish_addMissingRules_21) (og_acons (og_iload_n (i := 1) (j := 1) (by rfl) (by rfl) d_Parish_addMissingRules_24) (og_anil))) ok_Script_begin (v_Script_begin (by decide)) og_w653 d_Parish_addMissingRules_25) (og_sseq (og_callVv (og_acons (og_aload_n (i := 0) (t := 12) (j := 0) (by rfl) (by rfl) d_Parish_addMissingRules_28) (og_acons (og_iload_n (i := 1) (j := 1) (by rfl) (by rfl) d_Parish_addMissingRules_29) (og_anil))) ok_Parish_addUsualRule (v_Parish_addUsualRule (by decide)) og_w654 d_Parish_addMissingRules_30) (og_callVv (og_acons (og_f_Parish_rules (og_aload_n (i := 0) (t := 12) (j := 0) (by rfl) (by rfl) d_Parish_addMissingRules_33) og_w149 d_Parish_addMissingRules_34) (og_acons (og_iload_n (i := 1) (j := 1) (by rfl) (by rfl) d_Parish_addMissingRules_37) (og_anil))) ok_Script_finish (v_Script_finish (by decide)) og_w664 d_Parish_addMissingRules_38))) (og_sskip)) (og_gS (b' := 3) (og_iinc (j := 1) (lt' := [(0, 14), (1, 0)]) (by rfl) (by decide) (by decide) d_Parish_addMissingRules_41) d_Parish_addMissingRules_44 (by decide)))) (by decide)) (fun _ => d_Parish_addMissingRules_47)
abbrev og_c_Parish_read : ByteArray := prog_5_method_3_code
abbrev og_y_Parish_read : MethodName := ⟨"OpenGraves$Parish", "read", "(LOpenGraves$Tokens;LOpenGraves$Grammar;)I"⟩
theorem v_Parish_read {own : String} {idx dep : Nat} (h : 88 + 1 ≤ dep) : og_sV own idx og_y_Parish_read og_c_Parish_read 4 0 88 dep 10 2 := ⟨⟨9, og_sl_Parish, og_T_Parish, 3, rfl, by decide, rfl⟩, og_w462, og_w463, og_w2, og_w464, ⟨by decide +kernel, by decide +kernel, by decide +kernel⟩, h, by decide⟩
theorem d_Parish_read_0 : decode og_c_Parish_read 0 = .ok (.aload_n 0, 1) := by decide +kernel
theorem d_Parish_read_1 : decode og_c_Parish_read 1 = .ok (.getfield 12, 3) := by decide +kernel
theorem d_Parish_read_4 : decode og_c_Parish_read 4 = .ok (.invokevirtual 29, 3) := by decide +kernel
theorem d_Parish_read_7 : decode og_c_Parish_read 7 = .ok (.aload_n 0, 1) := by decide +kernel
theorem d_Parish_read_8 : decode og_c_Parish_read 8 = .ok (.getfield 21, 3) := by decide +kernel
theorem d_Parish_read_11 : decode og_c_Parish_read 11 = .ok (.invokevirtual 32, 3) := by decide +kernel
theorem d_Parish_read_14 : decode og_c_Parish_read 14 = .ok (.aload_n 1, 1) := by decide +kernel
theorem d_Parish_read_15 : decode og_c_Parish_read 15 = .ok (.invokevirtual 33, 3) := by decide +kernel
theorem d_Parish_read_18 : decode og_c_Parish_read 18 = .ok (.iconst 0, 1) := by decide +kernel
theorem d_Parish_read_19 : decode og_c_Parish_read 19 = .ok (.istore_n 3, 1) := by decide +kernel
theorem d_Parish_read_20 : decode og_c_Parish_read 20 = .ok (.iload_n 3, 1) := by decide +kernel
theorem d_Parish_read_21 : decode og_c_Parish_read 21 = .ok (.sipush 1600, 3) := by decide +kernel
theorem d_Parish_read_24 : decode og_c_Parish_read 24 = .ok (.if_icmp .ge 28, 3) := by decide +kernel
theorem d_Parish_read_27 : decode og_c_Parish_read 27 = .ok (.aload_n 1, 1) := by decide +kernel
theorem d_Parish_read_28 : decode og_c_Parish_read 28 = .ok (.invokevirtual 38, 3) := by decide +kernel
theorem d_Parish_read_31 : decode og_c_Parish_read 31 = .ok (.ifCond .eq 21, 3) := by decide +kernel
theorem d_Parish_read_34 : decode og_c_Parish_read 34 = .ok (.aload_n 0, 1) := by decide +kernel
theorem d_Parish_read_35 : decode og_c_Parish_read 35 = .ok (.aload_n 1, 1) := by decide +kernel
theorem d_Parish_read_36 : decode og_c_Parish_read 36 = .ok (.aload_n 2, 1) := by decide +kernel
theorem d_Parish_read_37 : decode og_c_Parish_read 37 = .ok (.invokevirtual 42, 3) := by decide +kernel
theorem d_Parish_read_40 : decode og_c_Parish_read 40 = .ok (.aload_n 1, 1) := by decide +kernel
theorem d_Parish_read_41 : decode og_c_Parish_read 41 = .ok (.bipush 59, 2) := by decide +kernel
theorem d_Parish_read_43 : decode og_c_Parish_read 43 = .ok (.invokevirtual 46, 3) := by decide +kernel
theorem d_Parish_read_46 : decode og_c_Parish_read 46 = .ok (.iinc 3 1, 3) := by decide +kernel
theorem d_Parish_read_49 : decode og_c_Parish_read 49 = .ok (.goto (-29), 3) := by decide +kernel
theorem d_Parish_read_52 : decode og_c_Parish_read 52 = .ok (.aload_n 0, 1) := by decide +kernel
theorem d_Parish_read_53 : decode og_c_Parish_read 53 = .ok (.invokevirtual 50, 3) := by decide +kernel
theorem d_Parish_read_56 : decode og_c_Parish_read 56 = .ok (.aload_n 1, 1) := by decide +kernel
theorem d_Parish_read_57 : decode og_c_Parish_read 57 = .ok (.getfield 53, 3) := by decide +kernel
theorem d_Parish_read_60 : decode og_c_Parish_read 60 = .ok (.ifCond .ne 7, 3) := by decide +kernel
theorem d_Parish_read_63 : decode og_c_Parish_read 63 = .ok (.iload_n 3, 1) := by decide +kernel
theorem d_Parish_read_64 : decode og_c_Parish_read 64 = .ok (.goto 4, 3) := by decide +kernel
theorem d_Parish_read_67 : decode og_c_Parish_read 67 = .ok (.iconst (-1), 1) := by decide +kernel
theorem d_Parish_read_68 : decode og_c_Parish_read 68 = .ok (.ireturn, 1) := by decide +kernel
def m_Parish_read : og_Dn := og_den [14, 7, 8] 4 0 (og_seq (og_exp (og_call m_Yard_clear [og_fix (fun i => i + 90) (og_loc 0)])) (og_seq (og_exp (og_call m_Script_clear [og_fix (fun i => i + 2) (og_loc 0)])) (og_seq (og_exp (og_call m_Tokens_begin [og_loc 1])) (og_seq (og_set 3 (og_k 0)) (og_cut (og_while (og_and (og_cc og_rlt (og_loc 3) (og_k 1600)) (og_cb (og_call m_Tokens_goesOn [og_loc 1]))) (og_seq (og_exp (og_call m_Parish_readStatement [og_loc 0, og_loc 1, og_loc 2])) (og_seq (og_exp (og_call m_Tokens_takeSign [og_loc 1, og_k 59])) (og_inc 3 1))) (og_skip)) (og_seq (og_exp (og_call m_Parish_addMissingRules [og_loc 0])) (og_ret (og_ei (og_cc og_req (og_get 7 (og_loc 1)) (og_k 0)) (og_loc 3) (og_k (-1))))))))))
set_option maxRecDepth 20000 in
theorem ok_Parish_read : og_MOK og_y_Parish_read og_c_Parish_read 4 0 88 [14, 7, 8] m_Parish_read := og_method (b := 0) (lt' := []) (by decide +kernel) (by decide) (by decide) (og_sseq (og_callVv (og_acons (og_f_Parish_beginning (og_aload_n (i := 0) (t := 12) (j := 0) (by rfl) (by rfl) d_Parish_read_0) og_w147 d_Parish_read_1) (og_anil)) ok_Yard_clear (v_Yard_clear (by decide)) og_w465 d_Parish_read_4) (og_sseq (og_callVv (og_acons (og_f_Parish_rules (og_aload_n (i := 0) (t := 12) (j := 0) (by rfl) (by rfl) d_Parish_read_7) og_w149 d_Parish_read_8) (og_anil)) ok_Script_clear (v_Script_clear (by decide)) og_w469 d_Parish_read_11) (og_sseq (og_callVv (og_acons (og_aload_n (i := 1) (t := 5) (j := 1) (by rfl) (by rfl) d_Parish_read_14) (og_anil)) ok_Tokens_begin (v_Tokens_begin (by decide)) og_w473 d_Parish_read_15) (og_sseq (og_istore_n (i := 3) (lt' := [(0, 14), (1, 7), (2, 8), (3, 0)]) (og_iconst (by decide) d_Parish_read_18) (by rfl) (by decide) (by decide) d_Parish_read_19) (og_scut (og_swhile (T := 34) (F := 52) (cp0 := 20) (og_cand (og_ccn og_n_lt (og_ige (tgt := 52) (og_iload_n (i := 3) (j := 3) (by rfl) (by rfl) d_Parish_read_20) (og_sipush (by decide) d_Parish_read_21) d_Parish_read_24 (by decide))) (og_cbeq (tgt := 52) (og_callVz (og_acons (og_aload_n (i := 1) (t := 5) (j := 1) (by rfl) (by rfl) d_Parish_read_27) (og_anil)) (by decide) ok_Tokens_goesOn (v_Tokens_goesOn (by decide)) og_w506 d_Parish_read_28) d_Parish_read_31 (by decide))) (og_sseq (og_callVv (og_acons (og_aload_n (i := 0) (t := 12) (j := 0) (by rfl) (by rfl) d_Parish_read_34) (og_acons (og_aload_n (i := 1) (t := 5) (j := 1) (by rfl) (by rfl) d_Parish_read_35) (og_acons (og_aload_n (i := 2) (t := 6) (j := 2) (by rfl) (by rfl) d_Parish_read_36) (og_anil)))) ok_Parish_readStatement (v_Parish_readStatement (by decide)) og_w510 d_Parish_read_37) (og_sseq (og_callVv (og_acons (og_aload_n (i := 1) (t := 5) (j := 1) (by rfl) (by rfl) d_Parish_read_40) (og_acons (og_bipush (by decide) d_Parish_read_41) (og_anil))) ok_Tokens_takeSign (v_Tokens_takeSign (by decide)) og_w648 d_Parish_read_43) (og_gS (b' := 20) (og_iinc (j := 3) (lt' := [(0, 14), (1, 7), (2, 8), (3, 0)]) (by rfl) (by decide) (by decide) d_Parish_read_46) d_Parish_read_49 (by decide)))) (og_sskip)) (og_sseq (og_callVv (og_acons (og_aload_n (i := 0) (t := 12) (j := 0) (by rfl) (by rfl) d_Parish_read_52) (og_anil)) ok_Parish_addMissingRules (v_Parish_addMissingRules (by decide)) og_w649 d_Parish_read_53) (og_sreti (og_eite (og_ccn og_n_eq (og_zne (tgt := 67) (og_f_Tokens_faultKind_N (og_aload_n (i := 1) (t := 5) (j := 1) (by rfl) (by rfl) d_Parish_read_56) og_w243 d_Parish_read_57) d_Parish_read_60 (by decide))) (og_iload_n (i := 3) (j := 3) (by rfl) (by rfl) d_Parish_read_63) d_Parish_read_64 (by decide) (og_iconst (by decide) d_Parish_read_67)) d_Parish_read_68))))))) (fun h => by cases h)
abbrev og_c_OG_keepFault : ByteArray := prog_1_method_36_code
abbrev og_y_OG_keepFault : MethodName := ⟨"OpenGraves", "keepFault", "()V"⟩
theorem v_OG_keepFault {own : String} {idx dep : Nat} (h : 1 + 1 ≤ dep) : og_sV own idx og_y_OG_keepFault og_c_OG_keepFault 1 2 1 dep 1 0 := ⟨⟨0, og_sl_OG, og_T_OG, 17, rfl, by decide, rfl⟩, og_w667, (og_memP (⟨"OpenGraves", "keepFault", "()V"⟩, 17) (List.mem_of_getElem? (i := 23) (by decide +kernel))), og_w1, og_w668, ⟨by decide +kernel, by decide +kernel, by decide +kernel⟩, h, by decide⟩
theorem d_OG_keepFault_0 : decode og_c_OG_keepFault 0 = .ok (.aload_n 0, 1) := by decide +kernel
theorem d_OG_keepFault_1 : decode og_c_OG_keepFault 1 = .ok (.aload_n 0, 1) := by decide +kernel
theorem d_OG_keepFault_2 : decode og_c_OG_keepFault 2 = .ok (.getfield 31, 3) := by decide +kernel
theorem d_OG_keepFault_5 : decode og_c_OG_keepFault 5 = .ok (.getfield 361, 3) := by decide +kernel
theorem d_OG_keepFault_8 : decode og_c_OG_keepFault 8 = .ok (.putfield 139, 3) := by decide +kernel
theorem d_OG_keepFault_11 : decode og_c_OG_keepFault 11 = .ok (.aload_n 0, 1) := by decide +kernel
theorem d_OG_keepFault_12 : decode og_c_OG_keepFault 12 = .ok (.aload_n 0, 1) := by decide +kernel
theorem d_OG_keepFault_13 : decode og_c_OG_keepFault 13 = .ok (.getfield 31, 3) := by decide +kernel
theorem d_OG_keepFault_16 : decode og_c_OG_keepFault 16 = .ok (.getfield 362, 3) := by decide +kernel
theorem d_OG_keepFault_19 : decode og_c_OG_keepFault 19 = .ok (.putfield 105, 3) := by decide +kernel
theorem d_OG_keepFault_22 : decode og_c_OG_keepFault 22 = .ok (.return_, 1) := by decide +kernel
def m_OG_keepFault : og_Dn := og_den [5] 1 2 (og_seq (og_putf 13 (og_loc 0) (og_get 7 (og_fix (fun _ => 3) (og_loc 0)))) (og_putf 14 (og_loc 0) (og_get 8 (og_fix (fun _ => 3) (og_loc 0)))))
set_option maxRecDepth 20000 in
theorem ok_OG_keepFault : og_MOK og_y_OG_keepFault og_c_OG_keepFault 1 2 1 [5] m_OG_keepFault := og_method (b := 22) (lt' := [(0, 5)]) (by decide +kernel) (by decide) (by decide) (og_sseq (og_p_OG_faultKind (og_aload_n (i := 0) (t := 3) (j := 0) (by rfl) (by rfl) d_OG_keepFault_0) (og_f_Tokens_faultKind_N (og_f_OG_tokens (og_aload_n (i := 0) (t := 3) (j := 0) (by rfl) (by rfl) d_OG_keepFault_1) og_w390 d_OG_keepFault_2) og_w244 d_OG_keepFault_5) og_w402 d_OG_keepFault_8) (og_p_OG_faultPlace (og_aload_n (i := 0) (t := 3) (j := 0) (by rfl) (by rfl) d_OG_keepFault_11) (og_f_Tokens_faultPlace_N (og_f_OG_tokens (og_aload_n (i := 0) (t := 3) (j := 0) (by rfl) (by rfl) d_OG_keepFault_12) og_w390 d_OG_keepFault_13) og_w246 d_OG_keepFault_16) og_w403 d_OG_keepFault_19)) (fun _ => d_OG_keepFault_22)
abbrev og_c_Yard_become : ByteArray := prog_12_method_3_code
abbrev og_y_Yard_become : MethodName := ⟨"OpenGraves$Yard", "become", "(LOpenGraves$Yard;)V"⟩
theorem v_Yard_become {own : String} {idx dep : Nat} (h : 1 + 1 ≤ dep) : og_sV own idx og_y_Yard_become og_c_Yard_become 2 2 1 dep 12 1 := ⟨⟨11, og_sl_Yard, og_T_Yard, 13, rfl, by decide, rfl⟩, og_w670, og_w671, og_w3, og_w672, ⟨by decide +kernel, by decide +kernel, by decide +kernel⟩, h, by decide⟩
theorem d_Yard_become_0 : decode og_c_Yard_become 0 = .ok (.aload_n 0, 1) := by decide +kernel
theorem d_Yard_become_1 : decode og_c_Yard_become 1 = .ok (.aload_n 1, 1) := by decide +kernel
theorem d_Yard_become_2 : decode og_c_Yard_become 2 = .ok (.getfield 39, 3) := by decide +kernel
theorem d_Yard_become_5 : decode og_c_Yard_become 5 = .ok (.putfield 39, 3) := by decide +kernel
theorem d_Yard_become_8 : decode og_c_Yard_become 8 = .ok (.aload_n 0, 1) := by decide +kernel
theorem d_Yard_become_9 : decode og_c_Yard_become 9 = .ok (.aload_n 1, 1) := by decide +kernel
theorem d_Yard_become_10 : decode og_c_Yard_become 10 = .ok (.getfield 43, 3) := by decide +kernel
theorem d_Yard_become_13 : decode og_c_Yard_become 13 = .ok (.putfield 43, 3) := by decide +kernel
theorem d_Yard_become_16 : decode og_c_Yard_become 16 = .ok (.aload_n 0, 1) := by decide +kernel
theorem d_Yard_become_17 : decode og_c_Yard_become 17 = .ok (.aload_n 1, 1) := by decide +kernel
theorem d_Yard_become_18 : decode og_c_Yard_become 18 = .ok (.getfield 46, 3) := by decide +kernel
theorem d_Yard_become_21 : decode og_c_Yard_become 21 = .ok (.putfield 46, 3) := by decide +kernel
theorem d_Yard_become_24 : decode og_c_Yard_become 24 = .ok (.aload_n 0, 1) := by decide +kernel
theorem d_Yard_become_25 : decode og_c_Yard_become 25 = .ok (.aload_n 1, 1) := by decide +kernel
theorem d_Yard_become_26 : decode og_c_Yard_become 26 = .ok (.getfield 49, 3) := by decide +kernel
theorem d_Yard_become_29 : decode og_c_Yard_become 29 = .ok (.putfield 49, 3) := by decide +kernel
theorem d_Yard_become_32 : decode og_c_Yard_become 32 = .ok (.aload_n 1, 1) := by decide +kernel
theorem d_Yard_become_33 : decode og_c_Yard_become 33 = .ok (.getfield 9, 3) := by decide +kernel
theorem d_Yard_become_36 : decode og_c_Yard_become 36 = .ok (.iconst 0, 1) := by decide +kernel
theorem d_Yard_become_37 : decode og_c_Yard_become 37 = .ok (.aload_n 0, 1) := by decide +kernel
theorem d_Yard_become_38 : decode og_c_Yard_become 38 = .ok (.getfield 9, 3) := by decide +kernel
theorem d_Yard_become_41 : decode og_c_Yard_become 41 = .ok (.iconst 0, 1) := by decide +kernel
theorem d_Yard_become_42 : decode og_c_Yard_become 42 = .ok (.bipush 6, 2) := by decide +kernel
theorem d_Yard_become_44 : decode og_c_Yard_become 44 = .ok (.invokestatic 52, 3) := by decide +kernel
theorem d_Yard_become_47 : decode og_c_Yard_become 47 = .ok (.aload_n 1, 1) := by decide +kernel
theorem d_Yard_become_48 : decode og_c_Yard_become 48 = .ok (.getfield 15, 3) := by decide +kernel
theorem d_Yard_become_51 : decode og_c_Yard_become 51 = .ok (.iconst 0, 1) := by decide +kernel
theorem d_Yard_become_52 : decode og_c_Yard_become 52 = .ok (.aload_n 0, 1) := by decide +kernel
theorem d_Yard_become_53 : decode og_c_Yard_become 53 = .ok (.getfield 15, 3) := by decide +kernel
theorem d_Yard_become_56 : decode og_c_Yard_become 56 = .ok (.iconst 0, 1) := by decide +kernel
theorem d_Yard_become_57 : decode og_c_Yard_become 57 = .ok (.bipush 6, 2) := by decide +kernel
theorem d_Yard_become_59 : decode og_c_Yard_become 59 = .ok (.invokestatic 52, 3) := by decide +kernel
theorem d_Yard_become_62 : decode og_c_Yard_become 62 = .ok (.aload_n 1, 1) := by decide +kernel
theorem d_Yard_become_63 : decode og_c_Yard_become 63 = .ok (.getfield 18, 3) := by decide +kernel
theorem d_Yard_become_66 : decode og_c_Yard_become 66 = .ok (.iconst 0, 1) := by decide +kernel
theorem d_Yard_become_67 : decode og_c_Yard_become 67 = .ok (.aload_n 0, 1) := by decide +kernel
theorem d_Yard_become_68 : decode og_c_Yard_become 68 = .ok (.getfield 18, 3) := by decide +kernel
theorem d_Yard_become_71 : decode og_c_Yard_become 71 = .ok (.iconst 0, 1) := by decide +kernel
theorem d_Yard_become_72 : decode og_c_Yard_become 72 = .ok (.bipush 6, 2) := by decide +kernel
theorem d_Yard_become_74 : decode og_c_Yard_become 74 = .ok (.invokestatic 52, 3) := by decide +kernel
theorem d_Yard_become_77 : decode og_c_Yard_become 77 = .ok (.aload_n 1, 1) := by decide +kernel
theorem d_Yard_become_78 : decode og_c_Yard_become 78 = .ok (.getfield 21, 3) := by decide +kernel
theorem d_Yard_become_81 : decode og_c_Yard_become 81 = .ok (.iconst 0, 1) := by decide +kernel
theorem d_Yard_become_82 : decode og_c_Yard_become 82 = .ok (.aload_n 0, 1) := by decide +kernel
theorem d_Yard_become_83 : decode og_c_Yard_become 83 = .ok (.getfield 21, 3) := by decide +kernel
theorem d_Yard_become_86 : decode og_c_Yard_become 86 = .ok (.iconst 0, 1) := by decide +kernel
theorem d_Yard_become_87 : decode og_c_Yard_become 87 = .ok (.bipush 6, 2) := by decide +kernel
theorem d_Yard_become_89 : decode og_c_Yard_become 89 = .ok (.invokestatic 52, 3) := by decide +kernel
theorem d_Yard_become_92 : decode og_c_Yard_become 92 = .ok (.aload_n 1, 1) := by decide +kernel
theorem d_Yard_become_93 : decode og_c_Yard_become 93 = .ok (.getfield 24, 3) := by decide +kernel
theorem d_Yard_become_96 : decode og_c_Yard_become 96 = .ok (.iconst 0, 1) := by decide +kernel
theorem d_Yard_become_97 : decode og_c_Yard_become 97 = .ok (.aload_n 0, 1) := by decide +kernel
theorem d_Yard_become_98 : decode og_c_Yard_become 98 = .ok (.getfield 24, 3) := by decide +kernel
theorem d_Yard_become_101 : decode og_c_Yard_become 101 = .ok (.iconst 0, 1) := by decide +kernel
theorem d_Yard_become_102 : decode og_c_Yard_become 102 = .ok (.bipush 8, 2) := by decide +kernel
theorem d_Yard_become_104 : decode og_c_Yard_become 104 = .ok (.invokestatic 52, 3) := by decide +kernel
theorem d_Yard_become_107 : decode og_c_Yard_become 107 = .ok (.aload_n 1, 1) := by decide +kernel
theorem d_Yard_become_108 : decode og_c_Yard_become 108 = .ok (.getfield 27, 3) := by decide +kernel
theorem d_Yard_become_111 : decode og_c_Yard_become 111 = .ok (.iconst 0, 1) := by decide +kernel
theorem d_Yard_become_112 : decode og_c_Yard_become 112 = .ok (.aload_n 0, 1) := by decide +kernel
theorem d_Yard_become_113 : decode og_c_Yard_become 113 = .ok (.getfield 27, 3) := by decide +kernel
theorem d_Yard_become_116 : decode og_c_Yard_become 116 = .ok (.iconst 0, 1) := by decide +kernel
theorem d_Yard_become_117 : decode og_c_Yard_become 117 = .ok (.bipush 8, 2) := by decide +kernel
theorem d_Yard_become_119 : decode og_c_Yard_become 119 = .ok (.invokestatic 52, 3) := by decide +kernel
theorem d_Yard_become_122 : decode og_c_Yard_become 122 = .ok (.aload_n 1, 1) := by decide +kernel
theorem d_Yard_become_123 : decode og_c_Yard_become 123 = .ok (.getfield 30, 3) := by decide +kernel
theorem d_Yard_become_126 : decode og_c_Yard_become 126 = .ok (.iconst 0, 1) := by decide +kernel
theorem d_Yard_become_127 : decode og_c_Yard_become 127 = .ok (.aload_n 0, 1) := by decide +kernel
theorem d_Yard_become_128 : decode og_c_Yard_become 128 = .ok (.getfield 30, 3) := by decide +kernel
theorem d_Yard_become_131 : decode og_c_Yard_become 131 = .ok (.iconst 0, 1) := by decide +kernel
theorem d_Yard_become_132 : decode og_c_Yard_become 132 = .ok (.bipush 8, 2) := by decide +kernel
theorem d_Yard_become_134 : decode og_c_Yard_become 134 = .ok (.invokestatic 52, 3) := by decide +kernel
theorem d_Yard_become_137 : decode og_c_Yard_become 137 = .ok (.aload_n 1, 1) := by decide +kernel
theorem d_Yard_become_138 : decode og_c_Yard_become 138 = .ok (.getfield 33, 3) := by decide +kernel
theorem d_Yard_become_141 : decode og_c_Yard_become 141 = .ok (.iconst 0, 1) := by decide +kernel
theorem d_Yard_become_142 : decode og_c_Yard_become 142 = .ok (.aload_n 0, 1) := by decide +kernel
theorem d_Yard_become_143 : decode og_c_Yard_become 143 = .ok (.getfield 33, 3) := by decide +kernel
theorem d_Yard_become_146 : decode og_c_Yard_become 146 = .ok (.iconst 0, 1) := by decide +kernel
theorem d_Yard_become_147 : decode og_c_Yard_become 147 = .ok (.bipush 8, 2) := by decide +kernel
theorem d_Yard_become_149 : decode og_c_Yard_become 149 = .ok (.invokestatic 52, 3) := by decide +kernel
theorem d_Yard_become_152 : decode og_c_Yard_become 152 = .ok (.aload_n 1, 1) := by decide +kernel
theorem d_Yard_become_153 : decode og_c_Yard_become 153 = .ok (.getfield 36, 3) := by decide +kernel
theorem d_Yard_become_156 : decode og_c_Yard_become 156 = .ok (.iconst 0, 1) := by decide +kernel
theorem d_Yard_become_157 : decode og_c_Yard_become 157 = .ok (.aload_n 0, 1) := by decide +kernel
theorem d_Yard_become_158 : decode og_c_Yard_become 158 = .ok (.getfield 36, 3) := by decide +kernel
theorem d_Yard_become_161 : decode og_c_Yard_become 161 = .ok (.iconst 0, 1) := by decide +kernel
theorem d_Yard_become_162 : decode og_c_Yard_become 162 = .ok (.bipush 32, 2) := by decide +kernel
theorem d_Yard_become_164 : decode og_c_Yard_become 164 = .ok (.invokestatic 52, 3) := by decide +kernel
theorem d_Yard_become_167 : decode og_c_Yard_become 167 = .ok (.return_, 1) := by decide +kernel
def m_Yard_become : og_Dn := og_den [16, 16] 2 2 (og_seq (og_putf 0 (og_loc 0) (og_get 0 (og_loc 1))) (og_seq (og_putf 1 (og_loc 0) (og_get 1 (og_loc 1))) (og_seq (og_putf 2 (og_loc 0) (og_get 2 (og_loc 1))) (og_seq (og_putf 3 (og_loc 0) (og_get 3 (og_loc 1))) (og_seq (og_acp 6 6 (og_fix (fun i => i + 1) (og_loc 1)) (og_k 0) (og_fix (fun i => i + 1) (og_loc 0)) (og_k 0) (og_k 6)) (og_seq (og_acp 6 6 (og_fix (fun i => i + 2) (og_loc 1)) (og_k 0) (og_fix (fun i => i + 2) (og_loc 0)) (og_k 0) (og_k 6)) (og_seq (og_acp 6 6 (og_fix (fun i => i + 3) (og_loc 1)) (og_k 0) (og_fix (fun i => i + 3) (og_loc 0)) (og_k 0) (og_k 6)) (og_seq (og_acp 6 6 (og_fix (fun i => i + 4) (og_loc 1)) (og_k 0) (og_fix (fun i => i + 4) (og_loc 0)) (og_k 0) (og_k 6)) (og_seq (og_acp 8 8 (og_fix (fun i => i + 5) (og_loc 1)) (og_k 0) (og_fix (fun i => i + 5) (og_loc 0)) (og_k 0) (og_k 8)) (og_seq (og_acp 8 8 (og_fix (fun i => i + 6) (og_loc 1)) (og_k 0) (og_fix (fun i => i + 6) (og_loc 0)) (og_k 0) (og_k 8)) (og_seq (og_acp 8 8 (og_fix (fun i => i + 7) (og_loc 1)) (og_k 0) (og_fix (fun i => i + 7) (og_loc 0)) (og_k 0) (og_k 8)) (og_seq (og_acp 8 8 (og_fix (fun i => i + 8) (og_loc 1)) (og_k 0) (og_fix (fun i => i + 8) (og_loc 0)) (og_k 0) (og_k 8)) (og_acp 32 32 (og_fix (fun i => i + 9) (og_loc 1)) (og_k 0) (og_fix (fun i => i + 9) (og_loc 0)) (og_k 0) (og_k 32))))))))))))))
set_option maxRecDepth 20000 in
theorem ok_Yard_become : og_MOK og_y_Yard_become og_c_Yard_become 2 2 1 [16, 16] m_Yard_become := og_method (b := 167) (lt' := [(0, 16), (1, 16)]) (by decide +kernel) (by decide) (by decide) (og_sseq (og_p_Yard_graves (og_aload_n (i := 0) (t := 14) (j := 0) (by rfl) (by rfl) d_Yard_become_0) (og_f_Yard_graves (og_aload_n (i := 1) (t := 14) (j := 1) (by rfl) (by rfl) d_Yard_become_1) og_w41 d_Yard_become_2) og_w41 d_Yard_become_5) (og_sseq (og_p_Yard_people (og_aload_n (i := 0) (t := 14) (j := 0) (by rfl) (by rfl) d_Yard_become_8) (og_f_Yard_people (og_aload_n (i := 1) (t := 14) (j := 1) (by rfl) (by rfl) d_Yard_become_9) og_w48 d_Yard_become_10) og_w48 d_Yard_become_13) (og_sseq (og_p_Yard_month (og_aload_n (i := 0) (t := 14) (j := 0) (by rfl) (by rfl) d_Yard_become_16) (og_f_Yard_month (og_aload_n (i := 1) (t := 14) (j := 1) (by rfl) (by rfl) d_Yard_become_17) og_w54 d_Yard_become_18) og_w54 d_Yard_become_21) (og_sseq (og_p_Yard_keptRows (og_aload_n (i := 0) (t := 14) (j := 0) (by rfl) (by rfl) d_Yard_become_24) (og_f_Yard_keptRows (og_aload_n (i := 1) (t := 14) (j := 1) (by rfl) (by rfl) d_Yard_become_25) og_w59 d_Yard_become_26) og_w59 d_Yard_become_29) (og_sseq (og_acopy (n0 := 6) (n1 := 6) (og_f_Yard_length (og_aload_n (i := 1) (t := 14) (j := 1) (by rfl) (by rfl) d_Yard_become_32) og_w61 d_Yard_become_33) (by rfl) (og_iconst (by decide) d_Yard_become_36) (og_f_Yard_length (og_aload_n (i := 0) (t := 14) (j := 0) (by rfl) (by rfl) d_Yard_become_37) og_w61 d_Yard_become_38) (by rfl) (og_iconst (by decide) d_Yard_become_41) (og_bipush (by decide) d_Yard_become_42) (by decide) og_w673 og_w675 og_w674 og_w18 d_Yard_become_44) (og_sseq (og_acopy (n0 := 6) (n1 := 6) (og_f_Yard_deep (og_aload_n (i := 1) (t := 14) (j := 1) (by rfl) (by rfl) d_Yard_become_47) og_w65 d_Yard_become_48) (by rfl) (og_iconst (by decide) d_Yard_become_51) (og_f_Yard_deep (og_aload_n (i := 0) (t := 14) (j := 0) (by rfl) (by rfl) d_Yard_become_52) og_w65 d_Yard_become_53) (by rfl) (og_iconst (by decide) d_Yard_become_56) (og_bipush (by decide) d_Yard_become_57) (by decide) og_w673 og_w675 og_w674 og_w18 d_Yard_become_59) (og_sseq (og_acopy (n0 := 6) (n1 := 6) (og_f_Yard_due (og_aload_n (i := 1) (t := 14) (j := 1) (by rfl) (by rfl) d_Yard_become_62) og_w69 d_Yard_become_63) (by rfl) (og_iconst (by decide) d_Yard_become_66) (og_f_Yard_due (og_aload_n (i := 0) (t := 14) (j := 0) (by rfl) (by rfl) d_Yard_become_67) og_w69 d_Yard_become_68) (by rfl) (og_iconst (by decide) d_Yard_become_71) (og_bipush (by decide) d_Yard_become_72) (by decide) og_w673 og_w675 og_w674 og_w18 d_Yard_become_74) (og_sseq (og_acopy (n0 := 6) (n1 := 6) (og_f_Yard_who (og_aload_n (i := 1) (t := 14) (j := 1) (by rfl) (by rfl) d_Yard_become_77) og_w74 d_Yard_become_78) (by rfl) (og_iconst (by decide) d_Yard_become_81) (og_f_Yard_who (og_aload_n (i := 0) (t := 14) (j := 0) (by rfl) (by rfl) d_Yard_become_82) og_w74 d_Yard_become_83) (by rfl) (og_iconst (by decide) d_Yard_become_86) (og_bipush (by decide) d_Yard_become_87) (by decide) og_w673 og_w675 og_w674 og_w18 d_Yard_become_89) (og_sseq (og_acopy (n0 := 8) (n1 := 8) (og_f_Yard_tall (og_aload_n (i := 1) (t := 14) (j := 1) (by rfl) (by rfl) d_Yard_become_92) og_w77 d_Yard_become_93) (by rfl) (og_iconst (by decide) d_Yard_become_96) (og_f_Yard_tall (og_aload_n (i := 0) (t := 14) (j := 0) (by rfl) (by rfl) d_Yard_become_97) og_w77 d_Yard_become_98) (by rfl) (og_iconst (by decide) d_Yard_become_101) (og_bipush (by decide) d_Yard_become_102) (by decide) og_w673 og_w675 og_w674 og_w18 d_Yard_become_104) (og_sseq (og_acopy (n0 := 8) (n1 := 8) (og_f_Yard_age (og_aload_n (i := 1) (t := 14) (j := 1) (by rfl) (by rfl) d_Yard_become_107) og_w81 d_Yard_become_108) (by rfl) (og_iconst (by decide) d_Yard_become_111) (og_f_Yard_age (og_aload_n (i := 0) (t := 14) (j := 0) (by rfl) (by rfl) d_Yard_become_112) og_w81 d_Yard_become_113) (by rfl) (og_iconst (by decide) d_Yard_become_116) (og_bipush (by decide) d_Yard_become_117) (by decide) og_w673 og_w675 og_w674 og_w18 d_Yard_become_119) (og_sseq (og_acopy (n0 := 8) (n1 := 8) (og_f_Yard_will (og_aload_n (i := 1) (t := 14) (j := 1) (by rfl) (by rfl) d_Yard_become_122) og_w86 d_Yard_become_123) (by rfl) (og_iconst (by decide) d_Yard_become_126) (og_f_Yard_will (og_aload_n (i := 0) (t := 14) (j := 0) (by rfl) (by rfl) d_Yard_become_127) og_w86 d_Yard_become_128) (by rfl) (og_iconst (by decide) d_Yard_become_131) (og_bipush (by decide) d_Yard_become_132) (by decide) og_w673 og_w675 og_w674 og_w18 d_Yard_become_134) (og_sseq (og_acopy (n0 := 8) (n1 := 8) (og_f_Yard_alive (og_aload_n (i := 1) (t := 14) (j := 1) (by rfl) (by rfl) d_Yard_become_137) og_w92 d_Yard_become_138) (by rfl) (og_iconst (by decide) d_Yard_become_141) (og_f_Yard_alive (og_aload_n (i := 0) (t := 14) (j := 0) (by rfl) (by rfl) d_Yard_become_142) og_w92 d_Yard_become_143) (by rfl) (og_iconst (by decide) d_Yard_become_146) (og_bipush (by decide) d_Yard_become_147) (by decide) og_w673 og_w675 og_w674 og_w18 d_Yard_become_149) (og_acopy (n0 := 32) (n1 := 32) (og_f_Yard_kept (og_aload_n (i := 1) (t := 14) (j := 1) (by rfl) (by rfl) d_Yard_become_152) og_w96 d_Yard_become_153) (by rfl) (og_iconst (by decide) d_Yard_become_156) (og_f_Yard_kept (og_aload_n (i := 0) (t := 14) (j := 0) (by rfl) (by rfl) d_Yard_become_157) og_w96 d_Yard_become_158) (by rfl) (og_iconst (by decide) d_Yard_become_161) (og_bipush (by decide) d_Yard_become_162) (by decide) og_w673 og_w675 og_w674 og_w18 d_Yard_become_164))))))))))))) (fun _ => d_Yard_become_167)
abbrev og_c_Past_forget : ByteArray := prog_6_method_2_code
abbrev og_y_Past_forget : MethodName := ⟨"OpenGraves$Past", "forget", "()V"⟩
theorem v_Past_forget {own : String} {idx dep : Nat} (h : 1 + 1 ≤ dep) : og_sV own idx og_y_Past_forget og_c_Past_forget 1 2 1 dep 9 0 := ⟨⟨8, og_sl_Past, og_T_Past, 3, rfl, by decide, rfl⟩, og_w677, og_w678, og_w16, og_w679, ⟨by decide +kernel, by decide +kernel, by decide +kernel⟩, h, by decide⟩
theorem d_Past_forget_0 : decode og_c_Past_forget 0 = .ok (.aload_n 0, 1) := by decide +kernel
theorem d_Past_forget_1 : decode og_c_Past_forget 1 = .ok (.iconst 0, 1) := by decide +kernel
theorem d_Past_forget_2 : decode og_c_Past_forget 2 = .ok (.putfield 18, 3) := by decide +kernel
theorem d_Past_forget_5 : decode og_c_Past_forget 5 = .ok (.return_, 1) := by decide +kernel
def m_Past_forget : og_Dn := og_den [13] 1 2 (og_putf 1 (og_loc 0) (og_k 0))
set_option maxRecDepth 20000 in
theorem ok_Past_forget : og_MOK og_y_Past_forget og_c_Past_forget 1 2 1 [13] m_Past_forget := og_method (b := 5) (lt' := [(0, 13)]) (by decide +kernel) (by decide) (by decide) (og_p_Past_count (og_aload_n (i := 0) (t := 11) (j := 0) (by rfl) (by rfl) d_Past_forget_0) (og_iconst (by decide) d_Past_forget_1) og_w377 d_Past_forget_2) (fun _ => d_Past_forget_5)
abbrev og_c_OG_parish : ByteArray := prog_1_method_4_code
abbrev og_y_OG_parish : MethodName := ⟨"OpenGraves", "parish", "()I"⟩
theorem v_OG_parish {own : String} {idx dep : Nat} (h : 89 + 1 ≤ dep) : og_sV own idx og_y_OG_parish og_c_OG_parish 3 0 89 dep 1 0 := ⟨⟨0, og_sl_OG, og_T_OG, 17, rfl, by decide, rfl⟩, og_w458, og_w459, og_w1, og_w460, ⟨by decide +kernel, by decide +kernel, by decide +kernel⟩, h, by decide⟩
theorem d_OG_parish_0 : decode og_c_OG_parish 0 = .ok (.aload_n 0, 1) := by decide +kernel
theorem d_OG_parish_1 : decode og_c_OG_parish 1 = .ok (.getfield 16, 3) := by decide +kernel
theorem d_OG_parish_4 : decode og_c_OG_parish 4 = .ok (.aload_n 0, 1) := by decide +kernel
theorem d_OG_parish_5 : decode og_c_OG_parish 5 = .ok (.getfield 31, 3) := by decide +kernel
theorem d_OG_parish_8 : decode og_c_OG_parish 8 = .ok (.aload_n 0, 1) := by decide +kernel
theorem d_OG_parish_9 : decode og_c_OG_parish 9 = .ok (.getfield 44, 3) := by decide +kernel
theorem d_OG_parish_12 : decode og_c_OG_parish 12 = .ok (.invokevirtual 119, 3) := by decide +kernel
theorem d_OG_parish_15 : decode og_c_OG_parish 15 = .ok (.istore_n 1, 1) := by decide +kernel
theorem d_OG_parish_16 : decode og_c_OG_parish 16 = .ok (.aload_n 0, 1) := by decide +kernel
theorem d_OG_parish_17 : decode og_c_OG_parish 17 = .ok (.invokevirtual 123, 3) := by decide +kernel
theorem d_OG_parish_20 : decode og_c_OG_parish 20 = .ok (.aload_n 0, 1) := by decide +kernel
theorem d_OG_parish_21 : decode og_c_OG_parish 21 = .ok (.getfield 22, 3) := by decide +kernel
theorem d_OG_parish_24 : decode og_c_OG_parish 24 = .ok (.iconst 0, 1) := by decide +kernel
theorem d_OG_parish_25 : decode og_c_OG_parish 25 = .ok (.putfield 108, 3) := by decide +kernel
theorem d_OG_parish_28 : decode og_c_OG_parish 28 = .ok (.iload_n 1, 1) := by decide +kernel
theorem d_OG_parish_29 : decode og_c_OG_parish 29 = .ok (.iconst (-1), 1) := by decide +kernel
theorem d_OG_parish_30 : decode og_c_OG_parish 30 = .ok (.if_icmp .ne 9, 3) := by decide +kernel
theorem d_OG_parish_33 : decode og_c_OG_parish 33 = .ok (.aload_n 0, 1) := by decide +kernel
theorem d_OG_parish_34 : decode og_c_OG_parish 34 = .ok (.iconst 1, 1) := by decide +kernel
theorem d_OG_parish_35 : decode og_c_OG_parish 35 = .ok (.invokevirtual 111, 3) := by decide +kernel
theorem d_OG_parish_38 : decode og_c_OG_parish 38 = .ok (.ireturn, 1) := by decide +kernel
theorem d_OG_parish_39 : decode og_c_OG_parish 39 = .ok (.aload_n 0, 1) := by decide +kernel
theorem d_OG_parish_40 : decode og_c_OG_parish 40 = .ok (.getfield 10, 3) := by decide +kernel
theorem d_OG_parish_43 : decode og_c_OG_parish 43 = .ok (.astore_n 2, 1) := by decide +kernel
theorem d_OG_parish_44 : decode og_c_OG_parish 44 = .ok (.aload_n 0, 1) := by decide +kernel
theorem d_OG_parish_45 : decode og_c_OG_parish 45 = .ok (.aload_n 0, 1) := by decide +kernel
theorem d_OG_parish_46 : decode og_c_OG_parish 46 = .ok (.getfield 16, 3) := by decide +kernel
theorem d_OG_parish_49 : decode og_c_OG_parish 49 = .ok (.putfield 10, 3) := by decide +kernel
theorem d_OG_parish_52 : decode og_c_OG_parish 52 = .ok (.aload_n 0, 1) := by decide +kernel
theorem d_OG_parish_53 : decode og_c_OG_parish 53 = .ok (.aload_n 2, 1) := by decide +kernel
theorem d_OG_parish_54 : decode og_c_OG_parish 54 = .ok (.putfield 16, 3) := by decide +kernel
theorem d_OG_parish_57 : decode og_c_OG_parish 57 = .ok (.aload_n 0, 1) := by decide +kernel
theorem d_OG_parish_58 : decode og_c_OG_parish 58 = .ok (.getfield 90, 3) := by decide +kernel
theorem d_OG_parish_61 : decode og_c_OG_parish 61 = .ok (.aload_n 0, 1) := by decide +kernel
theorem d_OG_parish_62 : decode og_c_OG_parish 62 = .ok (.getfield 10, 3) := by decide +kernel
theorem d_OG_parish_65 : decode og_c_OG_parish 65 = .ok (.getfield 126, 3) := by decide +kernel
theorem d_OG_parish_68 : decode og_c_OG_parish 68 = .ok (.invokevirtual 129, 3) := by decide +kernel
theorem d_OG_parish_71 : decode og_c_OG_parish 71 = .ok (.aload_n 0, 1) := by decide +kernel
theorem d_OG_parish_72 : decode og_c_OG_parish 72 = .ok (.getfield 83, 3) := by decide +kernel
theorem d_OG_parish_75 : decode og_c_OG_parish 75 = .ok (.invokevirtual 133, 3) := by decide +kernel
theorem d_OG_parish_78 : decode og_c_OG_parish 78 = .ok (.aload_n 0, 1) := by decide +kernel
theorem d_OG_parish_79 : decode og_c_OG_parish 79 = .ok (.getfield 69, 3) := by decide +kernel
theorem d_OG_parish_82 : decode og_c_OG_parish 82 = .ok (.iconst 0, 1) := by decide +kernel
theorem d_OG_parish_83 : decode og_c_OG_parish 83 = .ok (.putfield 136, 3) := by decide +kernel
theorem d_OG_parish_86 : decode og_c_OG_parish 86 = .ok (.iload_n 1, 1) := by decide +kernel
theorem d_OG_parish_87 : decode og_c_OG_parish 87 = .ok (.ireturn, 1) := by decide +kernel
def m_OG_parish : og_Dn := og_den [5] 3 0 (og_seq (og_set 1 (og_call m_Parish_read [og_get 16 (og_loc 0), og_fix (fun _ => 3) (og_loc 0), og_fix (fun _ => 5) (og_loc 0)])) (og_seq (og_exp (og_call m_OG_keepFault [og_loc 0])) (og_seq (og_putf 1 (og_fix (fun _ => 1) (og_loc 0)) (og_k 0)) (og_seq (og_if (og_cc og_req (og_loc 1) (og_k (-1))) (og_ret (og_call m_OG_refuse [og_loc 0, og_k 1])) (og_skip)) (og_seq (og_set 2 (og_get 15 (og_loc 0))) (og_seq (og_putf 15 (og_loc 0) (og_get 16 (og_loc 0))) (og_seq (og_putf 16 (og_loc 0) (og_loc 2)) (og_seq (og_exp (og_call m_Yard_become [og_fix (fun _ => 100) (og_loc 0), og_fix (fun i => i + 90) (og_get 15 (og_loc 0))])) (og_seq (og_exp (og_call m_Past_forget [og_fix (fun _ => 20) (og_loc 0)])) (og_seq (og_putf 4 (og_fix (fun _ => 10) (og_loc 0)) (og_k 0)) (og_ret (og_loc 1))))))))))))
set_option maxRecDepth 20000 in
theorem ok_OG_parish : og_MOK og_y_OG_parish og_c_OG_parish 3 0 89 [5] m_OG_parish := og_method (b := 0) (lt' := []) (by decide +kernel) (by decide) (by decide) (og_sseq (og_istore_n (i := 1) (lt' := [(0, 5), (1, 0)]) (og_callVi (og_acons (og_f_OG_draft (og_aload_n (i := 0) (t := 3) (j := 0) (by rfl) (by rfl) d_OG_parish_0) og_w405 d_OG_parish_1) (og_acons (og_f_OG_tokens (og_aload_n (i := 0) (t := 3) (j := 0) (by rfl) (by rfl) d_OG_parish_4) og_w390 d_OG_parish_5) (og_acons (og_f_OG_grammar (og_aload_n (i := 0) (t := 3) (j := 0) (by rfl) (by rfl) d_OG_parish_8) og_w391 d_OG_parish_9) (og_anil)))) (by decide) ok_Parish_read (v_Parish_read (by decide)) og_w461 d_OG_parish_12) (by rfl) (by decide) (by decide) d_OG_parish_15) (og_sseq (og_callVv (og_acons (og_aload_n (i := 0) (t := 3) (j := 0) (by rfl) (by rfl) d_OG_parish_16) (og_anil)) ok_OG_keepFault (v_OG_keepFault (by decide)) og_w665 d_OG_parish_17) (og_sseq (og_p_Tape_size_N (og_f_OG_tape (og_aload_n (i := 0) (t := 3) (j := 0) (by rfl) (by rfl) d_OG_parish_20) og_w389 d_OG_parish_21) (og_iconst (by decide) d_OG_parish_24) og_w167 d_OG_parish_25) (og_sseq (og_sif (T := 33) (F := 39) (og_ccn og_n_eq (og_ine (tgt := 39) (og_iload_n (i := 1) (j := 1) (by rfl) (by rfl) d_OG_parish_28) (og_iconst (by decide) d_OG_parish_29) d_OG_parish_30 (by decide))) (og_sreti (og_callVi (og_acons (og_aload_n (i := 0) (t := 3) (j := 0) (by rfl) (by rfl) d_OG_parish_33) (og_acons (og_iconst (by decide) d_OG_parish_34) (og_anil))) (by decide) ok_OG_refuse (v_OG_refuse (by decide)) og_w445 d_OG_parish_35) d_OG_parish_38) (og_sskip)) (og_sseq (og_astore_n (i := 2) (lt' := [(0, 5), (1, 0), (2, 14)]) (og_f_OG_told (og_aload_n (i := 0) (t := 3) (j := 0) (by rfl) (by rfl) d_OG_parish_39) og_w404 d_OG_parish_40) (by rfl) (by decide) (by decide) d_OG_parish_43) (og_sseq (og_p_OG_told (og_aload_n (i := 0) (t := 3) (j := 0) (by rfl) (by rfl) d_OG_parish_44) (og_f_OG_draft (og_aload_n (i := 0) (t := 3) (j := 0) (by rfl) (by rfl) d_OG_parish_45) og_w405 d_OG_parish_46) og_w404 d_OG_parish_49) (og_sseq (og_p_OG_draft (og_aload_n (i := 0) (t := 3) (j := 0) (by rfl) (by rfl) d_OG_parish_52) (og_aload_n (i := 2) (t := 12) (j := 2) (by rfl) (by rfl) d_OG_parish_53) og_w405 d_OG_parish_54) (og_sseq (og_callVv (og_acons (og_f_OG_now (og_aload_n (i := 0) (t := 3) (j := 0) (by rfl) (by rfl) d_OG_parish_57) og_w397 d_OG_parish_58) (og_acons (og_f_Parish_beginning_N (og_f_OG_told (og_aload_n (i := 0) (t := 3) (j := 0) (by rfl) (by rfl) d_OG_parish_61) og_w404 d_OG_parish_62) og_w148 d_OG_parish_65) (og_anil))) ok_Yard_become (v_Yard_become (by decide)) og_w669 d_OG_parish_68) (og_sseq (og_callVv (og_acons (og_f_OG_past (og_aload_n (i := 0) (t := 3) (j := 0) (by rfl) (by rfl) d_OG_parish_71) og_w396 d_OG_parish_72) (og_anil)) ok_Past_forget (v_Past_forget (by decide)) og_w676 d_OG_parish_75) (og_sseq (og_p_Outlook_seenRows_N (og_f_OG_outlook (og_aload_n (i := 0) (t := 3) (j := 0) (by rfl) (by rfl) d_OG_parish_78) og_w394 d_OG_parish_79) (og_iconst (by decide) d_OG_parish_82) og_w323 d_OG_parish_83) (og_sreti (og_iload_n (i := 1) (j := 1) (by rfl) (by rfl) d_OG_parish_86) d_OG_parish_87))))))))))) (fun h => by cases h)
abbrev og_c_OG_fault : ByteArray := prog_1_method_5_code
abbrev og_y_OG_fault : MethodName := ⟨"OpenGraves", "fault", "(I)I"⟩
theorem v_OG_fault {own : String} {idx dep : Nat} (h : 1 + 1 ≤ dep) : og_sV own idx og_y_OG_fault og_c_OG_fault 2 0 1 dep 1 1 := ⟨⟨0, og_sl_OG, og_T_OG, 17, rfl, by decide, rfl⟩, og_w681, og_w682, og_w1, og_w683, ⟨by decide +kernel, by decide +kernel, by decide +kernel⟩, h, by decide⟩
theorem d_OG_fault_0 : decode og_c_OG_fault 0 = .ok (.iload_n 1, 1) := by decide +kernel
theorem d_OG_fault_1 : decode og_c_OG_fault 1 = .ok (.lookupswitch 37 #[(0, 27), (1, 32)], 27) := by decide +kernel
theorem d_OG_fault_28 : decode og_c_OG_fault 28 = .ok (.aload_n 0, 1) := by decide +kernel
theorem d_OG_fault_29 : decode og_c_OG_fault 29 = .ok (.getfield 139, 3) := by decide +kernel
theorem d_OG_fault_32 : decode og_c_OG_fault 32 = .ok (.ireturn, 1) := by decide +kernel
theorem d_OG_fault_33 : decode og_c_OG_fault 33 = .ok (.aload_n 0, 1) := by decide +kernel
theorem d_OG_fault_34 : decode og_c_OG_fault 34 = .ok (.getfield 105, 3) := by decide +kernel
theorem d_OG_fault_37 : decode og_c_OG_fault 37 = .ok (.ireturn, 1) := by decide +kernel
theorem d_OG_fault_38 : decode og_c_OG_fault 38 = .ok (.iconst (-1), 1) := by decide +kernel
theorem d_OG_fault_39 : decode og_c_OG_fault 39 = .ok (.ireturn, 1) := by decide +kernel
def m_OG_fault : og_Dn := og_den [5, 0] 2 0 (og_sw (og_loc 1) (fun x => og_cs x [0] (og_ret (og_get 13 (og_loc 0))) (og_cs x [1] (og_ret (og_get 14 (og_loc 0))) (og_ret (og_k (-1))))))
set_option maxRecDepth 20000 in
theorem ok_OG_fault : og_MOK og_y_OG_fault og_c_OG_fault 2 0 1 [5, 0] m_OG_fault := og_method (b := 0) (lt' := []) (by decide +kernel) (by decide) (by decide) (og_slook (b1 := 0) (d := 38) (cs := [(0, 28), (1, 33)]) (og_iload_n (i := 1) (j := 1) (by rfl) (by rfl) d_OG_fault_0) d_OG_fault_1 (by decide) (by decide) (og_lkeq (by decide)) (fun x => og_scs (fun hx => og_sat (by simp at hx; subst hx; rfl) (og_sreti (og_f_OG_faultKind (og_aload_n (i := 0) (t := 3) (j := 0) (by rfl) (by rfl) d_OG_fault_28) og_w402 d_OG_fault_29) d_OG_fault_32)) (fun hx => og_scs (fun hx => og_sat (by simp at hx; subst hx; rfl) (og_sreti (og_f_OG_faultPlace (og_aload_n (i := 0) (t := 3) (j := 0) (by rfl) (by rfl) d_OG_fault_33) og_w403 d_OG_fault_34) d_OG_fault_37)) (fun hx => og_sat (og_lkn (by simp_all)) (og_sreti (og_iconst (by decide) d_OG_fault_38) d_OG_fault_39))))) (fun h => by cases h)
abbrev og_c_Yard_countAlive : ByteArray := prog_12_method_11_code
abbrev og_y_Yard_countAlive : MethodName := ⟨"OpenGraves$Yard", "countAlive", "()I"⟩
theorem v_Yard_countAlive {own : String} {idx dep : Nat} (h : 1 + 1 ≤ dep) : og_sV own idx og_y_Yard_countAlive og_c_Yard_countAlive 3 0 1 dep 12 0 := ⟨⟨11, og_sl_Yard, og_T_Yard, 13, rfl, by decide, rfl⟩, og_w689, og_w690, og_w3, og_w691, ⟨by decide +kernel, by decide +kernel, by decide +kernel⟩, h, by decide⟩
theorem d_Yard_countAlive_0 : decode og_c_Yard_countAlive 0 = .ok (.iconst 0, 1) := by decide +kernel
theorem d_Yard_countAlive_1 : decode og_c_Yard_countAlive 1 = .ok (.istore_n 1, 1) := by decide +kernel
theorem d_Yard_countAlive_2 : decode og_c_Yard_countAlive 2 = .ok (.iconst 0, 1) := by decide +kernel
theorem d_Yard_countAlive_3 : decode og_c_Yard_countAlive 3 = .ok (.istore_n 2, 1) := by decide +kernel
theorem d_Yard_countAlive_4 : decode og_c_Yard_countAlive 4 = .ok (.iload_n 2, 1) := by decide +kernel
theorem d_Yard_countAlive_5 : decode og_c_Yard_countAlive 5 = .ok (.aload_n 0, 1) := by decide +kernel
theorem d_Yard_countAlive_6 : decode og_c_Yard_countAlive 6 = .ok (.getfield 43, 3) := by decide +kernel
theorem d_Yard_countAlive_9 : decode og_c_Yard_countAlive 9 = .ok (.if_icmp .ge 18, 3) := by decide +kernel
theorem d_Yard_countAlive_12 : decode og_c_Yard_countAlive 12 = .ok (.iload_n 1, 1) := by decide +kernel
theorem d_Yard_countAlive_13 : decode og_c_Yard_countAlive 13 = .ok (.aload_n 0, 1) := by decide +kernel
theorem d_Yard_countAlive_14 : decode og_c_Yard_countAlive 14 = .ok (.getfield 33, 3) := by decide +kernel
theorem d_Yard_countAlive_17 : decode og_c_Yard_countAlive 17 = .ok (.iload_n 2, 1) := by decide +kernel
theorem d_Yard_countAlive_18 : decode og_c_Yard_countAlive 18 = .ok (.iaload, 1) := by decide +kernel
theorem d_Yard_countAlive_19 : decode og_c_Yard_countAlive 19 = .ok (.iadd, 1) := by decide +kernel
theorem d_Yard_countAlive_20 : decode og_c_Yard_countAlive 20 = .ok (.istore_n 1, 1) := by decide +kernel
theorem d_Yard_countAlive_21 : decode og_c_Yard_countAlive 21 = .ok (.iinc 2 1, 3) := by decide +kernel
theorem d_Yard_countAlive_24 : decode og_c_Yard_countAlive 24 = .ok (.goto (-20), 3) := by decide +kernel
theorem d_Yard_countAlive_27 : decode og_c_Yard_countAlive 27 = .ok (.iload_n 1, 1) := by decide +kernel
theorem d_Yard_countAlive_28 : decode og_c_Yard_countAlive 28 = .ok (.ireturn, 1) := by decide +kernel
def m_Yard_countAlive : og_Dn := og_den [16] 3 0 (og_seq (og_set 1 (og_k 0)) (og_cut (og_seq (og_set 2 (og_k 0)) (og_while (og_cc og_rlt (og_loc 2) (og_get 1 (og_loc 0))) (og_set 1 (og_add (og_loc 1) (og_ald 8 (og_fix (fun i => i + 8) (og_loc 0)) (og_loc 2)))) (og_inc 2 1))) (og_ret (og_loc 1))))
set_option maxRecDepth 20000 in
theorem ok_Yard_countAlive : og_MOK og_y_Yard_countAlive og_c_Yard_countAlive 3 0 1 [16] m_Yard_countAlive := og_method (b := 0) (lt' := []) (by decide +kernel) (by decide) (by decide) (og_sseq (og_istore_n (i := 1) (lt' := [(0, 16), (1, 0)]) (og_iconst (by decide) d_Yard_countAlive_0) (by rfl) (by decide) (by decide) d_Yard_countAlive_1) (og_scut (og_sdrop (lt' := [(0, 16), (1, 0), (2, 0)]) (lt2 := [(0, 16), (1, 0)]) (og_sseq (og_istore_n (i := 2) (lt' := [(0, 16), (1, 0), (2, 0)]) (og_iconst (by decide) d_Yard_countAlive_2) (by rfl) (by decide) (by decide) d_Yard_countAlive_3) (og_swhile (T := 12) (F := 27) (cp0 := 21) (og_ccn og_n_lt (og_ige (tgt := 27) (og_iload_n (i := 2) (j := 2) (by rfl) (by rfl) d_Yard_countAlive_4) (og_f_Yard_people (og_aload_n (i := 0) (t := 14) (j := 0) (by rfl) (by rfl) d_Yard_countAlive_5) og_w48 d_Yard_countAlive_6) d_Yard_countAlive_9 (by decide))) (og_istore_n (i := 1) (lt' := [(0, 16), (1, 0), (2, 0)]) (og_iadd (og_iload_n (i := 1) (j := 1) (by rfl) (by rfl) d_Yard_countAlive_12) (og_iald (N := 8) (og_f_Yard_alive (og_aload_n (i := 0) (t := 14) (j := 0) (by rfl) (by rfl) d_Yard_countAlive_13) og_w92 d_Yard_countAlive_14) (by rfl) (og_iload_n (i := 2) (j := 2) (by rfl) (by rfl) d_Yard_countAlive_17) d_Yard_countAlive_18) d_Yard_countAlive_19) (by rfl) (by decide) (by decide) d_Yard_countAlive_20) (og_gS (b' := 4) (og_iinc (j := 2) (lt' := [(0, 16), (1, 0), (2, 0)]) (by rfl) (by decide) (by decide) d_Yard_countAlive_21) d_Yard_countAlive_24 (by decide)))) (by decide)) (og_sreti (og_iload_n (i := 1) (j := 1) (by rfl) (by rfl) d_Yard_countAlive_27) d_Yard_countAlive_28))) (fun h => by cases h)
abbrev og_c_Yard_asks : ByteArray := prog_12_method_8_code
abbrev og_y_Yard_asks : MethodName := ⟨"OpenGraves$Yard", "asks", "(I)Z"⟩
theorem v_Yard_asks {own : String} {idx dep : Nat} (h : 1 + 1 ≤ dep) : og_sV own idx og_y_Yard_asks og_c_Yard_asks 2 3 1 dep 12 1 := ⟨⟨11, og_sl_Yard, og_T_Yard, 13, rfl, by decide, rfl⟩, og_w697, og_w698, og_w3, og_w699, ⟨by decide +kernel, by decide +kernel, by decide +kernel⟩, h, by decide⟩
theorem d_Yard_asks_0 : decode og_c_Yard_asks 0 = .ok (.aload_n 0, 1) := by decide +kernel
theorem d_Yard_asks_1 : decode og_c_Yard_asks 1 = .ok (.getfield 15, 3) := by decide +kernel
theorem d_Yard_asks_4 : decode og_c_Yard_asks 4 = .ok (.iload_n 1, 1) := by decide +kernel
theorem d_Yard_asks_5 : decode og_c_Yard_asks 5 = .ok (.iaload, 1) := by decide +kernel
theorem d_Yard_asks_6 : decode og_c_Yard_asks 6 = .ok (.bipush 6, 2) := by decide +kernel
theorem d_Yard_asks_8 : decode og_c_Yard_asks 8 = .ok (.if_icmp .lt 17, 3) := by decide +kernel
theorem d_Yard_asks_11 : decode og_c_Yard_asks 11 = .ok (.aload_n 0, 1) := by decide +kernel
theorem d_Yard_asks_12 : decode og_c_Yard_asks 12 = .ok (.getfield 21, 3) := by decide +kernel
theorem d_Yard_asks_15 : decode og_c_Yard_asks 15 = .ok (.iload_n 1, 1) := by decide +kernel
theorem d_Yard_asks_16 : decode og_c_Yard_asks 16 = .ok (.iaload, 1) := by decide +kernel
theorem d_Yard_asks_17 : decode og_c_Yard_asks 17 = .ok (.iconst (-1), 1) := by decide +kernel
theorem d_Yard_asks_18 : decode og_c_Yard_asks 18 = .ok (.if_icmp .ne 7, 3) := by decide +kernel
theorem d_Yard_asks_21 : decode og_c_Yard_asks 21 = .ok (.iconst 1, 1) := by decide +kernel
theorem d_Yard_asks_22 : decode og_c_Yard_asks 22 = .ok (.goto 4, 3) := by decide +kernel
theorem d_Yard_asks_25 : decode og_c_Yard_asks 25 = .ok (.iconst 0, 1) := by decide +kernel
theorem d_Yard_asks_26 : decode og_c_Yard_asks 26 = .ok (.ireturn, 1) := by decide +kernel
def m_Yard_asks : og_Dn := og_den [16, 0] 2 3 (og_retz (og_ec (og_and (og_cc og_rge (og_ald 6 (og_fix (fun i => i + 2) (og_loc 0)) (og_loc 1)) (og_k 6)) (og_cc og_req (og_ald 6 (og_fix (fun i => i + 4) (og_loc 0)) (og_loc 1)) (og_k (-1))))))
set_option maxRecDepth 20000 in
theorem ok_Yard_asks : og_MOK og_y_Yard_asks og_c_Yard_asks 2 3 1 [16, 0] m_Yard_asks := og_method (b := 0) (lt' := []) (by decide +kernel) (by decide) (by decide) (og_sretz (og_econd (b := 0) (og_cand (og_ccn og_n_ge (og_ilt (tgt := 25) (og_iald (N := 6) (og_f_Yard_deep (og_aload_n (i := 0) (t := 14) (j := 0) (by rfl) (by rfl) d_Yard_asks_0) og_w65 d_Yard_asks_1) (by rfl) (og_iload_n (i := 1) (j := 1) (by rfl) (by rfl) d_Yard_asks_4) d_Yard_asks_5) (og_bipush (by decide) d_Yard_asks_6) d_Yard_asks_8 (by decide))) (og_ccn og_n_eq (og_ine (tgt := 25) (og_iald (N := 6) (og_f_Yard_who (og_aload_n (i := 0) (t := 14) (j := 0) (by rfl) (by rfl) d_Yard_asks_11) og_w74 d_Yard_asks_12) (by rfl) (og_iload_n (i := 1) (j := 1) (by rfl) (by rfl) d_Yard_asks_15) d_Yard_asks_16) (og_iconst (by decide) d_Yard_asks_17) d_Yard_asks_18 (by decide)))) d_Yard_asks_21 d_Yard_asks_22 (by decide) d_Yard_asks_25 (by rfl)) d_Yard_asks_26) (fun h => by cases h)
abbrev og_c_Yard_countAsking : ByteArray := prog_12_method_12_code
abbrev og_y_Yard_countAsking : MethodName := ⟨"OpenGraves$Yard", "countAsking", "()I"⟩
theorem v_Yard_countAsking {own : String} {idx dep : Nat} (h : 2 + 1 ≤ dep) : og_sV own idx og_y_Yard_countAsking og_c_Yard_countAsking 3 0 2 dep 12 0 := ⟨⟨11, og_sl_Yard, og_T_Yard, 13, rfl, by decide, rfl⟩, og_w693, og_w694, og_w3, og_w695, ⟨by decide +kernel, by decide +kernel, by decide +kernel⟩, h, by decide⟩
theorem d_Yard_countAsking_0 : decode og_c_Yard_countAsking 0 = .ok (.iconst 0, 1) := by decide +kernel
theorem d_Yard_countAsking_1 : decode og_c_Yard_countAsking 1 = .ok (.istore_n 1, 1) := by decide +kernel
theorem d_Yard_countAsking_2 : decode og_c_Yard_countAsking 2 = .ok (.iconst 0, 1) := by decide +kernel
theorem d_Yard_countAsking_3 : decode og_c_Yard_countAsking 3 = .ok (.istore_n 2, 1) := by decide +kernel
theorem d_Yard_countAsking_4 : decode og_c_Yard_countAsking 4 = .ok (.iload_n 2, 1) := by decide +kernel
theorem d_Yard_countAsking_5 : decode og_c_Yard_countAsking 5 = .ok (.aload_n 0, 1) := by decide +kernel
theorem d_Yard_countAsking_6 : decode og_c_Yard_countAsking 6 = .ok (.getfield 39, 3) := by decide +kernel
theorem d_Yard_countAsking_9 : decode og_c_Yard_countAsking 9 = .ok (.if_icmp .ge 20, 3) := by decide +kernel
theorem d_Yard_countAsking_12 : decode og_c_Yard_countAsking 12 = .ok (.aload_n 0, 1) := by decide +kernel
theorem d_Yard_countAsking_13 : decode og_c_Yard_countAsking 13 = .ok (.iload_n 2, 1) := by decide +kernel
theorem d_Yard_countAsking_14 : decode og_c_Yard_countAsking 14 = .ok (.invokevirtual 62, 3) := by decide +kernel
theorem d_Yard_countAsking_17 : decode og_c_Yard_countAsking 17 = .ok (.ifCond .eq 6, 3) := by decide +kernel
theorem d_Yard_countAsking_20 : decode og_c_Yard_countAsking 20 = .ok (.iinc 1 1, 3) := by decide +kernel
theorem d_Yard_countAsking_23 : decode og_c_Yard_countAsking 23 = .ok (.iinc 2 1, 3) := by decide +kernel
theorem d_Yard_countAsking_26 : decode og_c_Yard_countAsking 26 = .ok (.goto (-22), 3) := by decide +kernel
theorem d_Yard_countAsking_29 : decode og_c_Yard_countAsking 29 = .ok (.iload_n 1, 1) := by decide +kernel
theorem d_Yard_countAsking_30 : decode og_c_Yard_countAsking 30 = .ok (.ireturn, 1) := by decide +kernel
def m_Yard_countAsking : og_Dn := og_den [16] 3 0 (og_seq (og_set 1 (og_k 0)) (og_cut (og_seq (og_set 2 (og_k 0)) (og_while (og_cc og_rlt (og_loc 2) (og_get 0 (og_loc 0))) (og_if (og_cb (og_call m_Yard_asks [og_loc 0, og_loc 2])) (og_inc 1 1) (og_skip)) (og_inc 2 1))) (og_ret (og_loc 1))))
set_option maxRecDepth 20000 in
theorem ok_Yard_countAsking : og_MOK og_y_Yard_countAsking og_c_Yard_countAsking 3 0 2 [16] m_Yard_countAsking := og_method (b := 0) (lt' := []) (by decide +kernel) (by decide) (by decide) (og_sseq (og_istore_n (i := 1) (lt' := [(0, 16), (1, 0)]) (og_iconst (by decide) d_Yard_countAsking_0) (by rfl) (by decide) (by decide) d_Yard_countAsking_1) (og_scut (og_sdrop (lt' := [(0, 16), (1, 0), (2, 0)]) (lt2 := [(0, 16), (1, 0)]) (og_sseq (og_istore_n (i := 2) (lt' := [(0, 16), (1, 0), (2, 0)]) (og_iconst (by decide) d_Yard_countAsking_2) (by rfl) (by decide) (by decide) d_Yard_countAsking_3) (og_swhile (T := 12) (F := 29) (cp0 := 23) (og_ccn og_n_lt (og_ige (tgt := 29) (og_iload_n (i := 2) (j := 2) (by rfl) (by rfl) d_Yard_countAsking_4) (og_f_Yard_graves (og_aload_n (i := 0) (t := 14) (j := 0) (by rfl) (by rfl) d_Yard_countAsking_5) og_w41 d_Yard_countAsking_6) d_Yard_countAsking_9 (by decide))) (og_sif (T := 20) (F := 23) (og_cbeq (tgt := 23) (og_callVz (og_acons (og_aload_n (i := 0) (t := 14) (j := 0) (by rfl) (by rfl) d_Yard_countAsking_12) (og_acons (og_iload_n (i := 2) (j := 2) (by rfl) (by rfl) d_Yard_countAsking_13) (og_anil))) (by decide) ok_Yard_asks (v_Yard_asks (by decide)) og_w696 d_Yard_countAsking_14) d_Yard_countAsking_17 (by decide)) (og_iinc (j := 1) (lt' := [(0, 16), (1, 0), (2, 0)]) (by rfl) (by decide) (by decide) d_Yard_countAsking_20) (og_sskip)) (og_gS (b' := 4) (og_iinc (j := 2) (lt' := [(0, 16), (1, 0), (2, 0)]) (by rfl) (by decide) (by decide) d_Yard_countAsking_23) d_Yard_countAsking_26 (by decide)))) (by decide)) (og_sreti (og_iload_n (i := 1) (j := 1) (by rfl) (by rfl) d_Yard_countAsking_29) d_Yard_countAsking_30))) (fun h => by cases h)
abbrev og_c_Yard_isFilled : ByteArray := prog_12_method_7_code
abbrev og_y_Yard_isFilled : MethodName := ⟨"OpenGraves$Yard", "isFilled", "(I)Z"⟩
theorem v_Yard_isFilled {own : String} {idx dep : Nat} (h : 1 + 1 ≤ dep) : og_sV own idx og_y_Yard_isFilled og_c_Yard_isFilled 2 3 1 dep 12 1 := ⟨⟨11, og_sl_Yard, og_T_Yard, 13, rfl, by decide, rfl⟩, og_w705, og_w706, og_w3, og_w707, ⟨by decide +kernel, by decide +kernel, by decide +kernel⟩, h, by decide⟩
theorem d_Yard_isFilled_0 : decode og_c_Yard_isFilled 0 = .ok (.aload_n 0, 1) := by decide +kernel
theorem d_Yard_isFilled_1 : decode og_c_Yard_isFilled 1 = .ok (.getfield 21, 3) := by decide +kernel
theorem d_Yard_isFilled_4 : decode og_c_Yard_isFilled 4 = .ok (.iload_n 1, 1) := by decide +kernel
theorem d_Yard_isFilled_5 : decode og_c_Yard_isFilled 5 = .ok (.iaload, 1) := by decide +kernel
theorem d_Yard_isFilled_6 : decode og_c_Yard_isFilled 6 = .ok (.iconst (-1), 1) := by decide +kernel
theorem d_Yard_isFilled_7 : decode og_c_Yard_isFilled 7 = .ok (.if_icmp .eq 7, 3) := by decide +kernel
theorem d_Yard_isFilled_10 : decode og_c_Yard_isFilled 10 = .ok (.iconst 1, 1) := by decide +kernel
theorem d_Yard_isFilled_11 : decode og_c_Yard_isFilled 11 = .ok (.goto 4, 3) := by decide +kernel
theorem d_Yard_isFilled_14 : decode og_c_Yard_isFilled 14 = .ok (.iconst 0, 1) := by decide +kernel
theorem d_Yard_isFilled_15 : decode og_c_Yard_isFilled 15 = .ok (.ireturn, 1) := by decide +kernel
def m_Yard_isFilled : og_Dn := og_den [16, 0] 2 3 (og_retz (og_ec (og_cc og_rne (og_ald 6 (og_fix (fun i => i + 4) (og_loc 0)) (og_loc 1)) (og_k (-1)))))
set_option maxRecDepth 20000 in
theorem ok_Yard_isFilled : og_MOK og_y_Yard_isFilled og_c_Yard_isFilled 2 3 1 [16, 0] m_Yard_isFilled := og_method (b := 0) (lt' := []) (by decide +kernel) (by decide) (by decide) (og_sretz (og_econd (b := 0) (og_ccn og_n_ne (og_ieq (tgt := 14) (og_iald (N := 6) (og_f_Yard_who (og_aload_n (i := 0) (t := 14) (j := 0) (by rfl) (by rfl) d_Yard_isFilled_0) og_w74 d_Yard_isFilled_1) (by rfl) (og_iload_n (i := 1) (j := 1) (by rfl) (by rfl) d_Yard_isFilled_4) d_Yard_isFilled_5) (og_iconst (by decide) d_Yard_isFilled_6) d_Yard_isFilled_7 (by decide))) d_Yard_isFilled_10 d_Yard_isFilled_11 (by decide) d_Yard_isFilled_14 (by rfl)) d_Yard_isFilled_15) (fun h => by cases h)
abbrev og_c_Yard_countFilled : ByteArray := prog_12_method_13_code
abbrev og_y_Yard_countFilled : MethodName := ⟨"OpenGraves$Yard", "countFilled", "()I"⟩
theorem v_Yard_countFilled {own : String} {idx dep : Nat} (h : 2 + 1 ≤ dep) : og_sV own idx og_y_Yard_countFilled og_c_Yard_countFilled 3 0 2 dep 12 0 := ⟨⟨11, og_sl_Yard, og_T_Yard, 13, rfl, by decide, rfl⟩, og_w701, og_w702, og_w3, og_w703, ⟨by decide +kernel, by decide +kernel, by decide +kernel⟩, h, by decide⟩
theorem d_Yard_countFilled_0 : decode og_c_Yard_countFilled 0 = .ok (.iconst 0, 1) := by decide +kernel
theorem d_Yard_countFilled_1 : decode og_c_Yard_countFilled 1 = .ok (.istore_n 1, 1) := by decide +kernel
theorem d_Yard_countFilled_2 : decode og_c_Yard_countFilled 2 = .ok (.iconst 0, 1) := by decide +kernel
theorem d_Yard_countFilled_3 : decode og_c_Yard_countFilled 3 = .ok (.istore_n 2, 1) := by decide +kernel
theorem d_Yard_countFilled_4 : decode og_c_Yard_countFilled 4 = .ok (.iload_n 2, 1) := by decide +kernel
theorem d_Yard_countFilled_5 : decode og_c_Yard_countFilled 5 = .ok (.aload_n 0, 1) := by decide +kernel
theorem d_Yard_countFilled_6 : decode og_c_Yard_countFilled 6 = .ok (.getfield 39, 3) := by decide +kernel
theorem d_Yard_countFilled_9 : decode og_c_Yard_countFilled 9 = .ok (.if_icmp .ge 20, 3) := by decide +kernel
theorem d_Yard_countFilled_12 : decode og_c_Yard_countFilled 12 = .ok (.aload_n 0, 1) := by decide +kernel
theorem d_Yard_countFilled_13 : decode og_c_Yard_countFilled 13 = .ok (.iload_n 2, 1) := by decide +kernel
theorem d_Yard_countFilled_14 : decode og_c_Yard_countFilled 14 = .ok (.invokevirtual 65, 3) := by decide +kernel
theorem d_Yard_countFilled_17 : decode og_c_Yard_countFilled 17 = .ok (.ifCond .eq 6, 3) := by decide +kernel
theorem d_Yard_countFilled_20 : decode og_c_Yard_countFilled 20 = .ok (.iinc 1 1, 3) := by decide +kernel
theorem d_Yard_countFilled_23 : decode og_c_Yard_countFilled 23 = .ok (.iinc 2 1, 3) := by decide +kernel
theorem d_Yard_countFilled_26 : decode og_c_Yard_countFilled 26 = .ok (.goto (-22), 3) := by decide +kernel
theorem d_Yard_countFilled_29 : decode og_c_Yard_countFilled 29 = .ok (.iload_n 1, 1) := by decide +kernel
theorem d_Yard_countFilled_30 : decode og_c_Yard_countFilled 30 = .ok (.ireturn, 1) := by decide +kernel
def m_Yard_countFilled : og_Dn := og_den [16] 3 0 (og_seq (og_set 1 (og_k 0)) (og_cut (og_seq (og_set 2 (og_k 0)) (og_while (og_cc og_rlt (og_loc 2) (og_get 0 (og_loc 0))) (og_if (og_cb (og_call m_Yard_isFilled [og_loc 0, og_loc 2])) (og_inc 1 1) (og_skip)) (og_inc 2 1))) (og_ret (og_loc 1))))
set_option maxRecDepth 20000 in
theorem ok_Yard_countFilled : og_MOK og_y_Yard_countFilled og_c_Yard_countFilled 3 0 2 [16] m_Yard_countFilled := og_method (b := 0) (lt' := []) (by decide +kernel) (by decide) (by decide) (og_sseq (og_istore_n (i := 1) (lt' := [(0, 16), (1, 0)]) (og_iconst (by decide) d_Yard_countFilled_0) (by rfl) (by decide) (by decide) d_Yard_countFilled_1) (og_scut (og_sdrop (lt' := [(0, 16), (1, 0), (2, 0)]) (lt2 := [(0, 16), (1, 0)]) (og_sseq (og_istore_n (i := 2) (lt' := [(0, 16), (1, 0), (2, 0)]) (og_iconst (by decide) d_Yard_countFilled_2) (by rfl) (by decide) (by decide) d_Yard_countFilled_3) (og_swhile (T := 12) (F := 29) (cp0 := 23) (og_ccn og_n_lt (og_ige (tgt := 29) (og_iload_n (i := 2) (j := 2) (by rfl) (by rfl) d_Yard_countFilled_4) (og_f_Yard_graves (og_aload_n (i := 0) (t := 14) (j := 0) (by rfl) (by rfl) d_Yard_countFilled_5) og_w41 d_Yard_countFilled_6) d_Yard_countFilled_9 (by decide))) (og_sif (T := 20) (F := 23) (og_cbeq (tgt := 23) (og_callVz (og_acons (og_aload_n (i := 0) (t := 14) (j := 0) (by rfl) (by rfl) d_Yard_countFilled_12) (og_acons (og_iload_n (i := 2) (j := 2) (by rfl) (by rfl) d_Yard_countFilled_13) (og_anil))) (by decide) ok_Yard_isFilled (v_Yard_isFilled (by decide)) og_w704 d_Yard_countFilled_14) d_Yard_countFilled_17 (by decide)) (og_iinc (j := 1) (lt' := [(0, 16), (1, 0), (2, 0)]) (by rfl) (by decide) (by decide) d_Yard_countFilled_20) (og_sskip)) (og_gS (b' := 4) (og_iinc (j := 2) (lt' := [(0, 16), (1, 0), (2, 0)]) (by rfl) (by decide) (by decide) d_Yard_countFilled_23) d_Yard_countFilled_26 (by decide)))) (by decide)) (og_sreti (og_iload_n (i := 1) (j := 1) (by rfl) (by rfl) d_Yard_countFilled_29) d_Yard_countFilled_30))) (fun h => by cases h)
abbrev og_c_OG_has : ByteArray := prog_1_method_6_code
abbrev og_y_OG_has : MethodName := ⟨"OpenGraves", "has", "(I)I"⟩
theorem v_OG_has {own : String} {idx dep : Nat} (h : 3 + 1 ≤ dep) : og_sV own idx og_y_OG_has og_c_OG_has 2 0 3 dep 1 1 := ⟨⟨0, og_sl_OG, og_T_OG, 17, rfl, by decide, rfl⟩, og_w685, og_w686, og_w1, og_w687, ⟨by decide +kernel, by decide +kernel, by decide +kernel⟩, h, by decide⟩
theorem d_OG_has_0 : decode og_c_OG_has 0 = .ok (.iload_n 1, 1) := by decide +kernel
theorem d_OG_has_1 : decode og_c_OG_has 1 = .ok (.tableswitch 123 0 8 #[51, 59, 67, 75, 83, 91, 99, 107, 115], 51) := by decide +kernel
theorem d_OG_has_52 : decode og_c_OG_has 52 = .ok (.aload_n 0, 1) := by decide +kernel
theorem d_OG_has_53 : decode og_c_OG_has 53 = .ok (.getfield 90, 3) := by decide +kernel
theorem d_OG_has_56 : decode og_c_OG_has 56 = .ok (.getfield 142, 3) := by decide +kernel
theorem d_OG_has_59 : decode og_c_OG_has 59 = .ok (.ireturn, 1) := by decide +kernel
theorem d_OG_has_60 : decode og_c_OG_has 60 = .ok (.aload_n 0, 1) := by decide +kernel
theorem d_OG_has_61 : decode og_c_OG_has 61 = .ok (.getfield 90, 3) := by decide +kernel
theorem d_OG_has_64 : decode og_c_OG_has 64 = .ok (.getfield 145, 3) := by decide +kernel
theorem d_OG_has_67 : decode og_c_OG_has 67 = .ok (.ireturn, 1) := by decide +kernel
theorem d_OG_has_68 : decode og_c_OG_has 68 = .ok (.aload_n 0, 1) := by decide +kernel
theorem d_OG_has_69 : decode og_c_OG_has 69 = .ok (.getfield 90, 3) := by decide +kernel
theorem d_OG_has_72 : decode og_c_OG_has 72 = .ok (.getfield 148, 3) := by decide +kernel
theorem d_OG_has_75 : decode og_c_OG_has 75 = .ok (.ireturn, 1) := by decide +kernel
theorem d_OG_has_76 : decode og_c_OG_has 76 = .ok (.aload_n 0, 1) := by decide +kernel
theorem d_OG_has_77 : decode og_c_OG_has 77 = .ok (.getfield 90, 3) := by decide +kernel
theorem d_OG_has_80 : decode og_c_OG_has 80 = .ok (.invokevirtual 151, 3) := by decide +kernel
theorem d_OG_has_83 : decode og_c_OG_has 83 = .ok (.ireturn, 1) := by decide +kernel
theorem d_OG_has_84 : decode og_c_OG_has 84 = .ok (.aload_n 0, 1) := by decide +kernel
theorem d_OG_has_85 : decode og_c_OG_has 85 = .ok (.getfield 90, 3) := by decide +kernel
theorem d_OG_has_88 : decode og_c_OG_has 88 = .ok (.invokevirtual 155, 3) := by decide +kernel
theorem d_OG_has_91 : decode og_c_OG_has 91 = .ok (.ireturn, 1) := by decide +kernel
theorem d_OG_has_92 : decode og_c_OG_has 92 = .ok (.aload_n 0, 1) := by decide +kernel
theorem d_OG_has_93 : decode og_c_OG_has 93 = .ok (.getfield 90, 3) := by decide +kernel
theorem d_OG_has_96 : decode og_c_OG_has 96 = .ok (.invokevirtual 158, 3) := by decide +kernel
theorem d_OG_has_99 : decode og_c_OG_has 99 = .ok (.ireturn, 1) := by decide +kernel
theorem d_OG_has_100 : decode og_c_OG_has 100 = .ok (.aload_n 0, 1) := by decide +kernel
theorem d_OG_has_101 : decode og_c_OG_has 101 = .ok (.getfield 90, 3) := by decide +kernel
theorem d_OG_has_104 : decode og_c_OG_has 104 = .ok (.getfield 161, 3) := by decide +kernel
theorem d_OG_has_107 : decode og_c_OG_has 107 = .ok (.ireturn, 1) := by decide +kernel
theorem d_OG_has_108 : decode og_c_OG_has 108 = .ok (.aload_n 0, 1) := by decide +kernel
theorem d_OG_has_109 : decode og_c_OG_has 109 = .ok (.getfield 69, 3) := by decide +kernel
theorem d_OG_has_112 : decode og_c_OG_has 112 = .ok (.getfield 136, 3) := by decide +kernel
theorem d_OG_has_115 : decode og_c_OG_has 115 = .ok (.ireturn, 1) := by decide +kernel
theorem d_OG_has_116 : decode og_c_OG_has 116 = .ok (.aload_n 0, 1) := by decide +kernel
theorem d_OG_has_117 : decode og_c_OG_has 117 = .ok (.getfield 83, 3) := by decide +kernel
theorem d_OG_has_120 : decode og_c_OG_has 120 = .ok (.getfield 164, 3) := by decide +kernel
theorem d_OG_has_123 : decode og_c_OG_has 123 = .ok (.ireturn, 1) := by decide +kernel
theorem d_OG_has_124 : decode og_c_OG_has 124 = .ok (.iconst (-1), 1) := by decide +kernel
theorem d_OG_has_125 : decode og_c_OG_has 125 = .ok (.ireturn, 1) := by decide +kernel
def m_OG_has : og_Dn := og_den [5, 0] 2 0 (og_sw (og_loc 1) (fun x => og_cs x [0] (og_ret (og_get 0 (og_fix (fun _ => 100) (og_loc 0)))) (og_cs x [1] (og_ret (og_get 1 (og_fix (fun _ => 100) (og_loc 0)))) (og_cs x [2] (og_ret (og_get 2 (og_fix (fun _ => 100) (og_loc 0)))) (og_cs x [3] (og_ret (og_call m_Yard_countAlive [og_fix (fun _ => 100) (og_loc 0)])) (og_cs x [4] (og_ret (og_call m_Yard_countAsking [og_fix (fun _ => 100) (og_loc 0)])) (og_cs x [5] (og_ret (og_call m_Yard_countFilled [og_fix (fun _ => 100) (og_loc 0)])) (og_cs x [6] (og_ret (og_get 3 (og_fix (fun _ => 100) (og_loc 0)))) (og_cs x [7] (og_ret (og_get 4 (og_fix (fun _ => 10) (og_loc 0)))) (og_cs x [8] (og_ret (og_get 1 (og_fix (fun _ => 20) (og_loc 0)))) (og_ret (og_k (-1)))))))))))))
set_option maxRecDepth 20000 in
theorem ok_OG_has : og_MOK og_y_OG_has og_c_OG_has 2 0 3 [5, 0] m_OG_has := og_method (b := 0) (lt' := []) (by decide +kernel) (by decide) (by decide) (og_stab (b1 := 0) (d := 124) (cs := [(0, 52), (1, 60), (2, 68), (3, 76), (4, 84), (5, 92), (6, 100), (7, 108), (8, 116)]) (og_iload_n (i := 1) (j := 1) (by rfl) (by rfl) d_OG_has_0) d_OG_has_1 (by decide) (by decide) (fun x => og_scs (fun hx => og_sat (by simp at hx; subst hx; rfl) (og_sreti (og_f_Yard_graves_N (og_f_OG_now (og_aload_n (i := 0) (t := 3) (j := 0) (by rfl) (by rfl) d_OG_has_52) og_w397 d_OG_has_53) og_w47 d_OG_has_56) d_OG_has_59)) (fun hx => og_scs (fun hx => og_sat (by simp at hx; subst hx; rfl) (og_sreti (og_f_Yard_people_N (og_f_OG_now (og_aload_n (i := 0) (t := 3) (j := 0) (by rfl) (by rfl) d_OG_has_60) og_w397 d_OG_has_61) og_w52 d_OG_has_64) d_OG_has_67)) (fun hx => og_scs (fun hx => og_sat (by simp at hx; subst hx; rfl) (og_sreti (og_f_Yard_month_N (og_f_OG_now (og_aload_n (i := 0) (t := 3) (j := 0) (by rfl) (by rfl) d_OG_has_68) og_w397 d_OG_has_69) og_w58 d_OG_has_72) d_OG_has_75)) (fun hx => og_scs (fun hx => og_sat (by simp at hx; subst hx; rfl) (og_sreti (og_callVi (og_acons (og_f_OG_now (og_aload_n (i := 0) (t := 3) (j := 0) (by rfl) (by rfl) d_OG_has_76) og_w397 d_OG_has_77) (og_anil)) (by decide) ok_Yard_countAlive (v_Yard_countAlive (by decide)) og_w688 d_OG_has_80) d_OG_has_83)) (fun hx => og_scs (fun hx => og_sat (by simp at hx; subst hx; rfl) (og_sreti (og_callVi (og_acons (og_f_OG_now (og_aload_n (i := 0) (t := 3) (j := 0) (by rfl) (by rfl) d_OG_has_84) og_w397 d_OG_has_85) (og_anil)) (by decide) ok_Yard_countAsking (v_Yard_countAsking (by decide)) og_w692 d_OG_has_88) d_OG_has_91)) (fun hx => og_scs (fun hx => og_sat (by simp at hx; subst hx; rfl) (og_sreti (og_callVi (og_acons (og_f_OG_now (og_aload_n (i := 0) (t := 3) (j := 0) (by rfl) (by rfl) d_OG_has_92) og_w397 d_OG_has_93) (og_anil)) (by decide) ok_Yard_countFilled (v_Yard_countFilled (by decide)) og_w700 d_OG_has_96) d_OG_has_99)) (fun hx => og_scs (fun hx => og_sat (by simp at hx; subst hx; rfl) (og_sreti (og_f_Yard_keptRows_N (og_f_OG_now (og_aload_n (i := 0) (t := 3) (j := 0) (by rfl) (by rfl) d_OG_has_100) og_w397 d_OG_has_101) og_w60 d_OG_has_104) d_OG_has_107)) (fun hx => og_scs (fun hx => og_sat (by simp at hx; subst hx; rfl) (og_sreti (og_f_Outlook_seenRows_N (og_f_OG_outlook (og_aload_n (i := 0) (t := 3) (j := 0) (by rfl) (by rfl) d_OG_has_108) og_w394 d_OG_has_109) og_w323 d_OG_has_112) d_OG_has_115)) (fun hx => og_scs (fun hx => og_sat (by simp at hx; subst hx; rfl) (og_sreti (og_f_Past_count_N (og_f_OG_past (og_aload_n (i := 0) (t := 3) (j := 0) (by rfl) (by rfl) d_OG_has_116) og_w396 d_OG_has_117) og_w378 d_OG_has_120) d_OG_has_123)) (fun hx => og_sat (og_lkn (by simp_all)) (og_sreti (og_iconst (by decide) d_OG_has_124) d_OG_has_125)))))))))))) (fun h => by cases h)
abbrev og_c_Yard_isGrave : ByteArray := prog_12_method_4_code
abbrev og_y_Yard_isGrave : MethodName := ⟨"OpenGraves$Yard", "isGrave", "(I)Z"⟩
theorem v_Yard_isGrave {own : String} {idx dep : Nat} (h : 1 + 1 ≤ dep) : og_sV own idx og_y_Yard_isGrave og_c_Yard_isGrave 2 3 1 dep 12 1 := ⟨⟨11, og_sl_Yard, og_T_Yard, 13, rfl, by decide, rfl⟩, og_w713, og_w714, og_w3, og_w715, ⟨by decide +kernel, by decide +kernel, by decide +kernel⟩, h, by decide⟩
theorem d_Yard_isGrave_0 : decode og_c_Yard_isGrave 0 = .ok (.iload_n 1, 1) := by decide +kernel
theorem d_Yard_isGrave_1 : decode og_c_Yard_isGrave 1 = .ok (.ifCond .lt 15, 3) := by decide +kernel
theorem d_Yard_isGrave_4 : decode og_c_Yard_isGrave 4 = .ok (.iload_n 1, 1) := by decide +kernel
theorem d_Yard_isGrave_5 : decode og_c_Yard_isGrave 5 = .ok (.aload_n 0, 1) := by decide +kernel
theorem d_Yard_isGrave_6 : decode og_c_Yard_isGrave 6 = .ok (.getfield 39, 3) := by decide +kernel
theorem d_Yard_isGrave_9 : decode og_c_Yard_isGrave 9 = .ok (.if_icmp .ge 7, 3) := by decide +kernel
theorem d_Yard_isGrave_12 : decode og_c_Yard_isGrave 12 = .ok (.iconst 1, 1) := by decide +kernel
theorem d_Yard_isGrave_13 : decode og_c_Yard_isGrave 13 = .ok (.goto 4, 3) := by decide +kernel
theorem d_Yard_isGrave_16 : decode og_c_Yard_isGrave 16 = .ok (.iconst 0, 1) := by decide +kernel
theorem d_Yard_isGrave_17 : decode og_c_Yard_isGrave 17 = .ok (.ireturn, 1) := by decide +kernel
def m_Yard_isGrave : og_Dn := og_den [16, 0] 2 3 (og_retz (og_ec (og_and (og_cc og_rge (og_loc 1) (og_k 0)) (og_cc og_rlt (og_loc 1) (og_get 0 (og_loc 0))))))
set_option maxRecDepth 20000 in
theorem ok_Yard_isGrave : og_MOK og_y_Yard_isGrave og_c_Yard_isGrave 2 3 1 [16, 0] m_Yard_isGrave := og_method (b := 0) (lt' := []) (by decide +kernel) (by decide) (by decide) (og_sretz (og_econd (b := 0) (og_cand (og_ccn og_n_ge (og_zlt (tgt := 16) (og_iload_n (i := 1) (j := 1) (by rfl) (by rfl) d_Yard_isGrave_0) d_Yard_isGrave_1 (by decide))) (og_ccn og_n_lt (og_ige (tgt := 16) (og_iload_n (i := 1) (j := 1) (by rfl) (by rfl) d_Yard_isGrave_4) (og_f_Yard_graves (og_aload_n (i := 0) (t := 14) (j := 0) (by rfl) (by rfl) d_Yard_isGrave_5) og_w41 d_Yard_isGrave_6) d_Yard_isGrave_9 (by decide)))) d_Yard_isGrave_12 d_Yard_isGrave_13 (by decide) d_Yard_isGrave_16 (by rfl)) d_Yard_isGrave_17) (fun h => by cases h)
abbrev og_c_Parish_letterOf : ByteArray := prog_5_method_2_code
abbrev og_y_Parish_letterOf : MethodName := ⟨"OpenGraves$Parish", "letterOf", "(II)I"⟩
theorem v_Parish_letterOf {own : String} {idx dep : Nat} (h : 1 + 1 ≤ dep) : og_sV own idx og_y_Parish_letterOf og_c_Parish_letterOf 5 0 1 dep 10 2 := ⟨⟨9, og_sl_Parish, og_T_Parish, 3, rfl, by decide, rfl⟩, og_w717, og_w718, og_w2, og_w719, ⟨by decide +kernel, by decide +kernel, by decide +kernel⟩, h, by decide⟩
theorem d_Parish_letterOf_0 : decode og_c_Parish_letterOf 0 = .ok (.aload_n 0, 1) := by decide +kernel
theorem d_Parish_letterOf_1 : decode og_c_Parish_letterOf 1 = .ok (.getfield 25, 3) := by decide +kernel
theorem d_Parish_letterOf_4 : decode og_c_Parish_letterOf 4 = .ok (.iload_n 1, 1) := by decide +kernel
theorem d_Parish_letterOf_5 : decode og_c_Parish_letterOf 5 = .ok (.iaload, 1) := by decide +kernel
theorem d_Parish_letterOf_6 : decode og_c_Parish_letterOf 6 = .ok (.istore_n 3, 1) := by decide +kernel
theorem d_Parish_letterOf_7 : decode og_c_Parish_letterOf 7 = .ok (.iconst 5, 1) := by decide +kernel
theorem d_Parish_letterOf_8 : decode og_c_Parish_letterOf 8 = .ok (.istore 4, 2) := by decide +kernel
theorem d_Parish_letterOf_10 : decode og_c_Parish_letterOf 10 = .ok (.iload 4, 2) := by decide +kernel
theorem d_Parish_letterOf_12 : decode og_c_Parish_letterOf 12 = .ok (.iload_n 2, 1) := by decide +kernel
theorem d_Parish_letterOf_13 : decode og_c_Parish_letterOf 13 = .ok (.if_icmp .le 14, 3) := by decide +kernel
theorem d_Parish_letterOf_16 : decode og_c_Parish_letterOf 16 = .ok (.iload_n 3, 1) := by decide +kernel
theorem d_Parish_letterOf_17 : decode og_c_Parish_letterOf 17 = .ok (.bipush 27, 2) := by decide +kernel
theorem d_Parish_letterOf_19 : decode og_c_Parish_letterOf 19 = .ok (.idiv, 1) := by decide +kernel
theorem d_Parish_letterOf_20 : decode og_c_Parish_letterOf 20 = .ok (.istore_n 3, 1) := by decide +kernel
theorem d_Parish_letterOf_21 : decode og_c_Parish_letterOf 21 = .ok (.iinc 4 (-1), 3) := by decide +kernel
theorem d_Parish_letterOf_24 : decode og_c_Parish_letterOf 24 = .ok (.goto (-14), 3) := by decide +kernel
theorem d_Parish_letterOf_27 : decode og_c_Parish_letterOf 27 = .ok (.iload_n 3, 1) := by decide +kernel
theorem d_Parish_letterOf_28 : decode og_c_Parish_letterOf 28 = .ok (.bipush 27, 2) := by decide +kernel
theorem d_Parish_letterOf_30 : decode og_c_Parish_letterOf 30 = .ok (.irem, 1) := by decide +kernel
theorem d_Parish_letterOf_31 : decode og_c_Parish_letterOf 31 = .ok (.ireturn, 1) := by decide +kernel
def m_Parish_letterOf : og_Dn := og_den [14, 0, 0] 5 0 (og_seq (og_set 3 (og_ald 14 (og_fix (fun i => i + 1) (og_loc 0)) (og_loc 1))) (og_cut (og_seq (og_set 4 (og_k 5)) (og_while (og_cc og_rgt (og_loc 4) (og_loc 2)) (og_set 3 (og_div (og_loc 3) (og_k 27))) (og_inc 4 (-1)))) (og_ret (og_rem (og_loc 3) (og_k 27)))))
set_option maxRecDepth 20000 in
theorem ok_Parish_letterOf : og_MOK og_y_Parish_letterOf og_c_Parish_letterOf 5 0 1 [14, 0, 0] m_Parish_letterOf := og_method (b := 0) (lt' := []) (by decide +kernel) (by decide) (by decide) (og_sseq (og_istore_n (i := 3) (lt' := [(0, 14), (1, 0), (2, 0), (3, 0)]) (og_iald (N := 14) (og_f_Parish_names (og_aload_n (i := 0) (t := 12) (j := 0) (by rfl) (by rfl) d_Parish_letterOf_0) og_w151 d_Parish_letterOf_1) (by rfl) (og_iload_n (i := 1) (j := 1) (by rfl) (by rfl) d_Parish_letterOf_4) d_Parish_letterOf_5) (by rfl) (by decide) (by decide) d_Parish_letterOf_6) (og_scut (og_sdrop (lt' := [(0, 14), (1, 0), (2, 0), (3, 0), (4, 0)]) (lt2 := [(0, 14), (1, 0), (2, 0), (3, 0)]) (og_sseq (og_istore (i := 4) (lt' := [(0, 14), (1, 0), (2, 0), (3, 0), (4, 0)]) (og_iconst (by decide) d_Parish_letterOf_7) (by decide) (by decide) d_Parish_letterOf_8) (og_swhile (T := 16) (F := 27) (cp0 := 21) (og_ccn og_n_gt (og_ile (tgt := 27) (og_iload (i := 4) (j := 4) (by rfl) d_Parish_letterOf_10) (og_iload_n (i := 2) (j := 2) (by rfl) (by rfl) d_Parish_letterOf_12) d_Parish_letterOf_13 (by decide))) (og_istore_n (i := 3) (lt' := [(0, 14), (1, 0), (2, 0), (3, 0), (4, 0)]) (og_idiv (og_iload_n (i := 3) (j := 3) (by rfl) (by rfl) d_Parish_letterOf_16) (og_bipush (by decide) d_Parish_letterOf_17) d_Parish_letterOf_19) (by rfl) (by decide) (by decide) d_Parish_letterOf_20) (og_gS (b' := 10) (og_iinc (j := 4) (lt' := [(0, 14), (1, 0), (2, 0), (3, 0), (4, 0)]) (by rfl) (by decide) (by decide) d_Parish_letterOf_21) d_Parish_letterOf_24 (by decide)))) (by decide)) (og_sreti (og_irem (og_iload_n (i := 3) (j := 3) (by rfl) (by rfl) d_Parish_letterOf_27) (og_bipush (by decide) d_Parish_letterOf_28) d_Parish_letterOf_30) d_Parish_letterOf_31))) (fun h => by cases h)
abbrev og_c_Yard_isPerson : ByteArray := prog_12_method_5_code
abbrev og_y_Yard_isPerson : MethodName := ⟨"OpenGraves$Yard", "isPerson", "(I)Z"⟩
theorem v_Yard_isPerson {own : String} {idx dep : Nat} (h : 1 + 1 ≤ dep) : og_sV own idx og_y_Yard_isPerson og_c_Yard_isPerson 2 3 1 dep 12 1 := ⟨⟨11, og_sl_Yard, og_T_Yard, 13, rfl, by decide, rfl⟩, og_w721, og_w722, og_w3, og_w723, ⟨by decide +kernel, by decide +kernel, by decide +kernel⟩, h, by decide⟩
theorem d_Yard_isPerson_0 : decode og_c_Yard_isPerson 0 = .ok (.iload_n 1, 1) := by decide +kernel
theorem d_Yard_isPerson_1 : decode og_c_Yard_isPerson 1 = .ok (.ifCond .lt 15, 3) := by decide +kernel
theorem d_Yard_isPerson_4 : decode og_c_Yard_isPerson 4 = .ok (.iload_n 1, 1) := by decide +kernel
theorem d_Yard_isPerson_5 : decode og_c_Yard_isPerson 5 = .ok (.aload_n 0, 1) := by decide +kernel
theorem d_Yard_isPerson_6 : decode og_c_Yard_isPerson 6 = .ok (.getfield 43, 3) := by decide +kernel
theorem d_Yard_isPerson_9 : decode og_c_Yard_isPerson 9 = .ok (.if_icmp .ge 7, 3) := by decide +kernel
theorem d_Yard_isPerson_12 : decode og_c_Yard_isPerson 12 = .ok (.iconst 1, 1) := by decide +kernel
theorem d_Yard_isPerson_13 : decode og_c_Yard_isPerson 13 = .ok (.goto 4, 3) := by decide +kernel
theorem d_Yard_isPerson_16 : decode og_c_Yard_isPerson 16 = .ok (.iconst 0, 1) := by decide +kernel
theorem d_Yard_isPerson_17 : decode og_c_Yard_isPerson 17 = .ok (.ireturn, 1) := by decide +kernel
def m_Yard_isPerson : og_Dn := og_den [16, 0] 2 3 (og_retz (og_ec (og_and (og_cc og_rge (og_loc 1) (og_k 0)) (og_cc og_rlt (og_loc 1) (og_get 1 (og_loc 0))))))
set_option maxRecDepth 20000 in
theorem ok_Yard_isPerson : og_MOK og_y_Yard_isPerson og_c_Yard_isPerson 2 3 1 [16, 0] m_Yard_isPerson := og_method (b := 0) (lt' := []) (by decide +kernel) (by decide) (by decide) (og_sretz (og_econd (b := 0) (og_cand (og_ccn og_n_ge (og_zlt (tgt := 16) (og_iload_n (i := 1) (j := 1) (by rfl) (by rfl) d_Yard_isPerson_0) d_Yard_isPerson_1 (by decide))) (og_ccn og_n_lt (og_ige (tgt := 16) (og_iload_n (i := 1) (j := 1) (by rfl) (by rfl) d_Yard_isPerson_4) (og_f_Yard_people (og_aload_n (i := 0) (t := 14) (j := 0) (by rfl) (by rfl) d_Yard_isPerson_5) og_w48 d_Yard_isPerson_6) d_Yard_isPerson_9 (by decide)))) d_Yard_isPerson_12 d_Yard_isPerson_13 (by decide) d_Yard_isPerson_16 (by rfl)) d_Yard_isPerson_17) (fun h => by cases h)
abbrev og_c_OG_letter : ByteArray := prog_1_method_7_code
abbrev og_y_OG_letter : MethodName := ⟨"OpenGraves", "letter", "(III)I"⟩
theorem v_OG_letter {own : String} {idx dep : Nat} (h : 2 + 1 ≤ dep) : og_sV own idx og_y_OG_letter og_c_OG_letter 4 0 2 dep 1 3 := ⟨⟨0, og_sl_OG, og_T_OG, 17, rfl, by decide, rfl⟩, og_w709, og_w710, og_w1, og_w711, ⟨by decide +kernel, by decide +kernel, by decide +kernel⟩, h, by decide⟩
theorem d_OG_letter_0 : decode og_c_OG_letter 0 = .ok (.iload_n 3, 1) := by decide +kernel
theorem d_OG_letter_1 : decode og_c_OG_letter 1 = .ok (.ifCond .lt 9, 3) := by decide +kernel
theorem d_OG_letter_4 : decode og_c_OG_letter 4 = .ok (.iload_n 3, 1) := by decide +kernel
theorem d_OG_letter_5 : decode og_c_OG_letter 5 = .ok (.bipush 6, 2) := by decide +kernel
theorem d_OG_letter_7 : decode og_c_OG_letter 7 = .ok (.if_icmp .lt 5, 3) := by decide +kernel
theorem d_OG_letter_10 : decode og_c_OG_letter 10 = .ok (.iconst (-1), 1) := by decide +kernel
theorem d_OG_letter_11 : decode og_c_OG_letter 11 = .ok (.ireturn, 1) := by decide +kernel
theorem d_OG_letter_12 : decode og_c_OG_letter 12 = .ok (.iload_n 1, 1) := by decide +kernel
theorem d_OG_letter_13 : decode og_c_OG_letter 13 = .ok (.ifCond .ne 24, 3) := by decide +kernel
theorem d_OG_letter_16 : decode og_c_OG_letter 16 = .ok (.aload_n 0, 1) := by decide +kernel
theorem d_OG_letter_17 : decode og_c_OG_letter 17 = .ok (.getfield 90, 3) := by decide +kernel
theorem d_OG_letter_20 : decode og_c_OG_letter 20 = .ok (.iload_n 2, 1) := by decide +kernel
theorem d_OG_letter_21 : decode og_c_OG_letter 21 = .ok (.invokevirtual 167, 3) := by decide +kernel
theorem d_OG_letter_24 : decode og_c_OG_letter 24 = .ok (.ifCond .eq 13, 3) := by decide +kernel
theorem d_OG_letter_27 : decode og_c_OG_letter 27 = .ok (.aload_n 0, 1) := by decide +kernel
theorem d_OG_letter_28 : decode og_c_OG_letter 28 = .ok (.getfield 10, 3) := by decide +kernel
theorem d_OG_letter_31 : decode og_c_OG_letter 31 = .ok (.iload_n 2, 1) := by decide +kernel
theorem d_OG_letter_32 : decode og_c_OG_letter 32 = .ok (.iload_n 3, 1) := by decide +kernel
theorem d_OG_letter_33 : decode og_c_OG_letter 33 = .ok (.invokevirtual 171, 3) := by decide +kernel
theorem d_OG_letter_36 : decode og_c_OG_letter 36 = .ok (.ireturn, 1) := by decide +kernel
theorem d_OG_letter_37 : decode og_c_OG_letter 37 = .ok (.iload_n 1, 1) := by decide +kernel
theorem d_OG_letter_38 : decode og_c_OG_letter 38 = .ok (.iconst 1, 1) := by decide +kernel
theorem d_OG_letter_39 : decode og_c_OG_letter 39 = .ok (.if_icmp .ne 27, 3) := by decide +kernel
theorem d_OG_letter_42 : decode og_c_OG_letter 42 = .ok (.aload_n 0, 1) := by decide +kernel
theorem d_OG_letter_43 : decode og_c_OG_letter 43 = .ok (.getfield 90, 3) := by decide +kernel
theorem d_OG_letter_46 : decode og_c_OG_letter 46 = .ok (.iload_n 2, 1) := by decide +kernel
theorem d_OG_letter_47 : decode og_c_OG_letter 47 = .ok (.invokevirtual 175, 3) := by decide +kernel
theorem d_OG_letter_50 : decode og_c_OG_letter 50 = .ok (.ifCond .eq 16, 3) := by decide +kernel
theorem d_OG_letter_53 : decode og_c_OG_letter 53 = .ok (.aload_n 0, 1) := by decide +kernel
theorem d_OG_letter_54 : decode og_c_OG_letter 54 = .ok (.getfield 10, 3) := by decide +kernel
theorem d_OG_letter_57 : decode og_c_OG_letter 57 = .ok (.bipush 6, 2) := by decide +kernel
theorem d_OG_letter_59 : decode og_c_OG_letter 59 = .ok (.iload_n 2, 1) := by decide +kernel
theorem d_OG_letter_60 : decode og_c_OG_letter 60 = .ok (.iadd, 1) := by decide +kernel
theorem d_OG_letter_61 : decode og_c_OG_letter 61 = .ok (.iload_n 3, 1) := by decide +kernel
theorem d_OG_letter_62 : decode og_c_OG_letter 62 = .ok (.invokevirtual 171, 3) := by decide +kernel
theorem d_OG_letter_65 : decode og_c_OG_letter 65 = .ok (.ireturn, 1) := by decide +kernel
theorem d_OG_letter_66 : decode og_c_OG_letter 66 = .ok (.iconst (-1), 1) := by decide +kernel
theorem d_OG_letter_67 : decode og_c_OG_letter 67 = .ok (.ireturn, 1) := by decide +kernel
def m_OG_letter : og_Dn := og_den [5, 0, 0, 0] 4 0 (og_seq (og_if (og_or (og_cc og_rlt (og_loc 3) (og_k 0)) (og_cc og_rge (og_loc 3) (og_k 6))) (og_ret (og_k (-1))) (og_skip)) (og_seq (og_if (og_and (og_cc og_req (og_loc 1) (og_k 0)) (og_cb (og_call m_Yard_isGrave [og_fix (fun _ => 100) (og_loc 0), og_loc 2]))) (og_ret (og_call m_Parish_letterOf [og_get 15 (og_loc 0), og_loc 2, og_loc 3])) (og_skip)) (og_seq (og_if (og_and (og_cc og_req (og_loc 1) (og_k 1)) (og_cb (og_call m_Yard_isPerson [og_fix (fun _ => 100) (og_loc 0), og_loc 2]))) (og_ret (og_call m_Parish_letterOf [og_get 15 (og_loc 0), og_add (og_k 6) (og_loc 2), og_loc 3])) (og_skip)) (og_ret (og_k (-1))))))
set_option maxRecDepth 20000 in
theorem ok_OG_letter : og_MOK og_y_OG_letter og_c_OG_letter 4 0 2 [5, 0, 0, 0] m_OG_letter := og_method (b := 0) (lt' := []) (by decide +kernel) (by decide) (by decide) (og_sseq (og_sif (T := 10) (F := 12) (og_cor (og_zlt (tgt := 10) (og_iload_n (i := 3) (j := 3) (by rfl) (by rfl) d_OG_letter_0) d_OG_letter_1 (by decide)) (og_ccn og_n_ge (og_ilt (tgt := 12) (og_iload_n (i := 3) (j := 3) (by rfl) (by rfl) d_OG_letter_4) (og_bipush (by decide) d_OG_letter_5) d_OG_letter_7 (by decide)))) (og_sreti (og_iconst (by decide) d_OG_letter_10) d_OG_letter_11) (og_sskip)) (og_sseq (og_sif (T := 27) (F := 37) (og_cand (og_ccn og_n_eq (og_zne (tgt := 37) (og_iload_n (i := 1) (j := 1) (by rfl) (by rfl) d_OG_letter_12) d_OG_letter_13 (by decide))) (og_cbeq (tgt := 37) (og_callVz (og_acons (og_f_OG_now (og_aload_n (i := 0) (t := 3) (j := 0) (by rfl) (by rfl) d_OG_letter_16) og_w397 d_OG_letter_17) (og_acons (og_iload_n (i := 2) (j := 2) (by rfl) (by rfl) d_OG_letter_20) (og_anil))) (by decide) ok_Yard_isGrave (v_Yard_isGrave (by decide)) og_w712 d_OG_letter_21) d_OG_letter_24 (by decide))) (og_sreti (og_callVi (og_acons (og_f_OG_told (og_aload_n (i := 0) (t := 3) (j := 0) (by rfl) (by rfl) d_OG_letter_27) og_w404 d_OG_letter_28) (og_acons (og_iload_n (i := 2) (j := 2) (by rfl) (by rfl) d_OG_letter_31) (og_acons (og_iload_n (i := 3) (j := 3) (by rfl) (by rfl) d_OG_letter_32) (og_anil)))) (by decide) ok_Parish_letterOf (v_Parish_letterOf (by decide)) og_w716 d_OG_letter_33) d_OG_letter_36) (og_sskip)) (og_sseq (og_sif (T := 53) (F := 66) (og_cand (og_ccn og_n_eq (og_ine (tgt := 66) (og_iload_n (i := 1) (j := 1) (by rfl) (by rfl) d_OG_letter_37) (og_iconst (by decide) d_OG_letter_38) d_OG_letter_39 (by decide))) (og_cbeq (tgt := 66) (og_callVz (og_acons (og_f_OG_now (og_aload_n (i := 0) (t := 3) (j := 0) (by rfl) (by rfl) d_OG_letter_42) og_w397 d_OG_letter_43) (og_acons (og_iload_n (i := 2) (j := 2) (by rfl) (by rfl) d_OG_letter_46) (og_anil))) (by decide) ok_Yard_isPerson (v_Yard_isPerson (by decide)) og_w720 d_OG_letter_47) d_OG_letter_50 (by decide))) (og_sreti (og_callVi (og_acons (og_f_OG_told (og_aload_n (i := 0) (t := 3) (j := 0) (by rfl) (by rfl) d_OG_letter_53) og_w404 d_OG_letter_54) (og_acons (og_iadd (og_bipush (by decide) d_OG_letter_57) (og_iload_n (i := 2) (j := 2) (by rfl) (by rfl) d_OG_letter_59) d_OG_letter_60) (og_acons (og_iload_n (i := 3) (j := 3) (by rfl) (by rfl) d_OG_letter_61) (og_anil)))) (by decide) ok_Parish_letterOf (v_Parish_letterOf (by decide)) og_w716 d_OG_letter_62) d_OG_letter_65) (og_sskip)) (og_sreti (og_iconst (by decide) d_OG_letter_66) d_OG_letter_67)))) (fun h => by cases h)
