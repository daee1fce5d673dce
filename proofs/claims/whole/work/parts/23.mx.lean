abbrev og_c_OG_later : ByteArray := prog_1_method_13_code
abbrev og_y_OG_later : MethodName := ⟨"OpenGraves", "later", "(II)I"⟩
theorem v_OG_later {own : String} {idx dep : Nat} (h : 8 + 1 ≤ dep) : og_sV own idx og_y_OG_later og_c_OG_later 3 0 8 dep 1 2 := ⟨⟨0, og_sl_OG, og_T_OG, 17, rfl, by decide, rfl⟩, og_w810, og_w811, og_w1, og_w812, ⟨by decide +kernel, by decide +kernel, by decide +kernel⟩, h, by decide⟩
theorem d_OG_later_0 : decode og_c_OG_later 0 = .ok (.aload_n 0, 1) := by decide +kernel
theorem d_OG_later_1 : decode og_c_OG_later 1 = .ok (.getfield 90, 3) := by decide +kernel
theorem d_OG_later_4 : decode og_c_OG_later 4 = .ok (.iload_n 1, 1) := by decide +kernel
theorem d_OG_later_5 : decode og_c_OG_later 5 = .ok (.invokevirtual 167, 3) := by decide +kernel
theorem d_OG_later_8 : decode og_c_OG_later 8 = .ok (.ifCond .eq 11, 3) := by decide +kernel
theorem d_OG_later_11 : decode og_c_OG_later 11 = .ok (.aload_n 0, 1) := by decide +kernel
theorem d_OG_later_12 : decode og_c_OG_later 12 = .ok (.iload_n 2, 1) := by decide +kernel
theorem d_OG_later_13 : decode og_c_OG_later 13 = .ok (.invokevirtual 226, 3) := by decide +kernel
theorem d_OG_later_16 : decode og_c_OG_later 16 = .ok (.ifCond .ne 5, 3) := by decide +kernel
theorem d_OG_later_19 : decode og_c_OG_later 19 = .ok (.iconst (-1), 1) := by decide +kernel
theorem d_OG_later_20 : decode og_c_OG_later 20 = .ok (.ireturn, 1) := by decide +kernel
theorem d_OG_later_21 : decode og_c_OG_later 21 = .ok (.aload_n 0, 1) := by decide +kernel
theorem d_OG_later_22 : decode og_c_OG_later 22 = .ok (.getfield 69, 3) := by decide +kernel
theorem d_OG_later_25 : decode og_c_OG_later 25 = .ok (.aload_n 0, 1) := by decide +kernel
theorem d_OG_later_26 : decode og_c_OG_later 26 = .ok (.getfield 10, 3) := by decide +kernel
theorem d_OG_later_29 : decode og_c_OG_later 29 = .ok (.getfield 37, 3) := by decide +kernel
theorem d_OG_later_32 : decode og_c_OG_later 32 = .ok (.aload_n 0, 1) := by decide +kernel
theorem d_OG_later_33 : decode og_c_OG_later 33 = .ok (.getfield 90, 3) := by decide +kernel
theorem d_OG_later_36 : decode og_c_OG_later 36 = .ok (.iload_n 2, 1) := by decide +kernel
theorem d_OG_later_37 : decode og_c_OG_later 37 = .ok (.invokevirtual 229, 3) := by decide +kernel
theorem d_OG_later_40 : decode og_c_OG_later 40 = .ok (.pop, 1) := by decide +kernel
theorem d_OG_later_41 : decode og_c_OG_later 41 = .ok (.aload_n 0, 1) := by decide +kernel
theorem d_OG_later_42 : decode og_c_OG_later 42 = .ok (.getfield 69, 3) := by decide +kernel
theorem d_OG_later_45 : decode og_c_OG_later 45 = .ok (.getfield 233, 3) := by decide +kernel
theorem d_OG_later_48 : decode og_c_OG_later 48 = .ok (.getfield 187, 3) := by decide +kernel
theorem d_OG_later_51 : decode og_c_OG_later 51 = .ok (.iload_n 1, 1) := by decide +kernel
theorem d_OG_later_52 : decode og_c_OG_later 52 = .ok (.iaload, 1) := by decide +kernel
theorem d_OG_later_53 : decode og_c_OG_later 53 = .ok (.ireturn, 1) := by decide +kernel
def m_OG_later : og_Dn := og_den [5, 0, 0] 3 0 (og_seq (og_if (og_or (og_not (og_cb (og_call m_Yard_isGrave [og_fix (fun _ => 100) (og_loc 0), og_loc 1]))) (og_not (og_cb (og_call m_OG_comesAhead [og_loc 0, og_loc 2])))) (og_ret (og_k (-1))) (og_skip)) (og_seq (og_exp (og_call m_Outlook_takenIn [og_fix (fun _ => 10) (og_loc 0), og_fix (fun i => i + 2) (og_get 15 (og_loc 0)), og_fix (fun _ => 100) (og_loc 0), og_loc 2])) (og_ret (og_ald 6 (og_fix (fun i => i + 4) (og_fix (fun _ => 110) (og_fix (fun _ => 10) (og_loc 0)))) (og_loc 1)))))
set_option maxRecDepth 20000 in
theorem ok_OG_later : og_MOK og_y_OG_later og_c_OG_later 3 0 8 [5, 0, 0] m_OG_later := og_method (b := 0) (lt' := []) (by decide +kernel) (by decide) (by decide) (og_sseq (og_sif (T := 19) (F := 21) (og_cor (og_cnot (og_cbeq (tgt := 19) (og_callVz (og_acons (og_f_OG_now (og_aload_n (i := 0) (t := 3) (j := 0) (by rfl) (by rfl) d_OG_later_0) og_w397 d_OG_later_1) (og_acons (og_iload_n (i := 1) (j := 1) (by rfl) (by rfl) d_OG_later_4) (og_anil))) (by decide) ok_Yard_isGrave (v_Yard_isGrave (by decide)) og_w712 d_OG_later_5) d_OG_later_8 (by decide))) (og_cnot (og_cbne (tgt := 21) (og_callVz (og_acons (og_aload_n (i := 0) (t := 3) (j := 0) (by rfl) (by rfl) d_OG_later_11) (og_acons (og_iload_n (i := 2) (j := 2) (by rfl) (by rfl) d_OG_later_12) (og_anil))) (by decide) ok_OG_comesAhead (v_OG_comesAhead (by decide)) og_w813 d_OG_later_13) d_OG_later_16 (by decide)))) (og_sreti (og_iconst (by decide) d_OG_later_19) d_OG_later_20) (og_sskip)) (og_sseq (og_spop (og_callVi (og_acons (og_f_OG_outlook (og_aload_n (i := 0) (t := 3) (j := 0) (by rfl) (by rfl) d_OG_later_21) og_w394 d_OG_later_22) (og_acons (og_f_Parish_rules_N (og_f_OG_told (og_aload_n (i := 0) (t := 3) (j := 0) (by rfl) (by rfl) d_OG_later_25) og_w404 d_OG_later_26) og_w150 d_OG_later_29) (og_acons (og_f_OG_now (og_aload_n (i := 0) (t := 3) (j := 0) (by rfl) (by rfl) d_OG_later_32) og_w397 d_OG_later_33) (og_acons (og_iload_n (i := 2) (j := 2) (by rfl) (by rfl) d_OG_later_36) (og_anil))))) (by decide) ok_Outlook_takenIn (v_Outlook_takenIn (by decide)) og_w817 d_OG_later_37) d_OG_later_40) (og_sreti (og_iald (N := 6) (og_f_Yard_who_N (og_f_Outlook_trial_N (og_f_OG_outlook (og_aload_n (i := 0) (t := 3) (j := 0) (by rfl) (by rfl) d_OG_later_41) og_w394 d_OG_later_42) og_w320 d_OG_later_45) og_w76 d_OG_later_48) (by rfl) (og_iload_n (i := 1) (j := 1) (by rfl) (by rfl) d_OG_later_51) d_OG_later_52) d_OG_later_53))) (fun h => by cases h)
abbrev og_c_Outlook_filledBehind : ByteArray := prog_4_method_4_code
abbrev og_y_Outlook_filledBehind : MethodName := ⟨"OpenGraves$Outlook", "filledBehind", "(LOpenGraves$Script;LOpenGraves$Yard;I)I"⟩
theorem v_Outlook_filledBehind {own : String} {idx dep : Nat} (h : 6 + 1 ≤ dep) : og_sV own idx og_y_Outlook_filledBehind og_c_Outlook_filledBehind 6 0 6 dep 7 3 := ⟨⟨6, og_sl_Outlook, og_T_Outlook, 9, rfl, by decide, rfl⟩, og_w876, og_w877, og_w14, og_w878, ⟨by decide +kernel, by decide +kernel, by decide +kernel⟩, h, by decide⟩
theorem d_Outlook_filledBehind_0 : decode og_c_Outlook_filledBehind 0 = .ok (.aload_n 0, 1) := by decide +kernel
theorem d_Outlook_filledBehind_1 : decode og_c_Outlook_filledBehind 1 = .ok (.getfield 22, 3) := by decide +kernel
theorem d_Outlook_filledBehind_4 : decode og_c_Outlook_filledBehind 4 = .ok (.aload_n 2, 1) := by decide +kernel
theorem d_Outlook_filledBehind_5 : decode og_c_Outlook_filledBehind 5 = .ok (.invokevirtual 42, 3) := by decide +kernel
theorem d_Outlook_filledBehind_8 : decode og_c_Outlook_filledBehind 8 = .ok (.bipush 60, 2) := by decide +kernel
theorem d_Outlook_filledBehind_10 : decode og_c_Outlook_filledBehind 10 = .ok (.sipush 999, 3) := by decide +kernel
theorem d_Outlook_filledBehind_13 : decode og_c_Outlook_filledBehind 13 = .ok (.aload_n 2, 1) := by decide +kernel
theorem d_Outlook_filledBehind_14 : decode og_c_Outlook_filledBehind 14 = .ok (.getfield 60, 3) := by decide +kernel
theorem d_Outlook_filledBehind_17 : decode og_c_Outlook_filledBehind 17 = .ok (.isub, 1) := by decide +kernel
theorem d_Outlook_filledBehind_18 : decode og_c_Outlook_filledBehind 18 = .ok (.invokestatic 64, 3) := by decide +kernel
theorem d_Outlook_filledBehind_21 : decode og_c_Outlook_filledBehind 21 = .ok (.istore 4, 2) := by decide +kernel
theorem d_Outlook_filledBehind_23 : decode og_c_Outlook_filledBehind 23 = .ok (.iconst 0, 1) := by decide +kernel
theorem d_Outlook_filledBehind_24 : decode og_c_Outlook_filledBehind 24 = .ok (.istore 5, 2) := by decide +kernel
theorem d_Outlook_filledBehind_26 : decode og_c_Outlook_filledBehind 26 = .ok (.iload 5, 2) := by decide +kernel
theorem d_Outlook_filledBehind_28 : decode og_c_Outlook_filledBehind 28 = .ok (.iload 4, 2) := by decide +kernel
theorem d_Outlook_filledBehind_30 : decode og_c_Outlook_filledBehind 30 = .ok (.if_icmp .ge 33, 3) := by decide +kernel
theorem d_Outlook_filledBehind_33 : decode og_c_Outlook_filledBehind 33 = .ok (.aload_n 0, 1) := by decide +kernel
theorem d_Outlook_filledBehind_34 : decode og_c_Outlook_filledBehind 34 = .ok (.getfield 22, 3) := by decide +kernel
theorem d_Outlook_filledBehind_37 : decode og_c_Outlook_filledBehind 37 = .ok (.iload_n 3, 1) := by decide +kernel
theorem d_Outlook_filledBehind_38 : decode og_c_Outlook_filledBehind 38 = .ok (.invokevirtual 70, 3) := by decide +kernel
theorem d_Outlook_filledBehind_41 : decode og_c_Outlook_filledBehind 41 = .ok (.ifCond .ne 22, 3) := by decide +kernel
theorem d_Outlook_filledBehind_44 : decode og_c_Outlook_filledBehind 44 = .ok (.aload_n 0, 1) := by decide +kernel
theorem d_Outlook_filledBehind_45 : decode og_c_Outlook_filledBehind 45 = .ok (.getfield 9, 3) := by decide +kernel
theorem d_Outlook_filledBehind_48 : decode og_c_Outlook_filledBehind 48 = .ok (.aload_n 1, 1) := by decide +kernel
theorem d_Outlook_filledBehind_49 : decode og_c_Outlook_filledBehind 49 = .ok (.aload_n 0, 1) := by decide +kernel
theorem d_Outlook_filledBehind_50 : decode og_c_Outlook_filledBehind 50 = .ok (.getfield 22, 3) := by decide +kernel
theorem d_Outlook_filledBehind_53 : decode og_c_Outlook_filledBehind 53 = .ok (.invokevirtual 54, 3) := by decide +kernel
theorem d_Outlook_filledBehind_56 : decode og_c_Outlook_filledBehind 56 = .ok (.pop, 1) := by decide +kernel
theorem d_Outlook_filledBehind_57 : decode og_c_Outlook_filledBehind 57 = .ok (.iinc 5 1, 3) := by decide +kernel
theorem d_Outlook_filledBehind_60 : decode og_c_Outlook_filledBehind 60 = .ok (.goto (-34), 3) := by decide +kernel
theorem d_Outlook_filledBehind_63 : decode og_c_Outlook_filledBehind 63 = .ok (.aload_n 0, 1) := by decide +kernel
theorem d_Outlook_filledBehind_64 : decode og_c_Outlook_filledBehind 64 = .ok (.getfield 22, 3) := by decide +kernel
theorem d_Outlook_filledBehind_67 : decode og_c_Outlook_filledBehind 67 = .ok (.iload_n 3, 1) := by decide +kernel
theorem d_Outlook_filledBehind_68 : decode og_c_Outlook_filledBehind 68 = .ok (.invokevirtual 70, 3) := by decide +kernel
theorem d_Outlook_filledBehind_71 : decode og_c_Outlook_filledBehind 71 = .ok (.ifCond .eq 18, 3) := by decide +kernel
theorem d_Outlook_filledBehind_74 : decode og_c_Outlook_filledBehind 74 = .ok (.aload_n 0, 1) := by decide +kernel
theorem d_Outlook_filledBehind_75 : decode og_c_Outlook_filledBehind 75 = .ok (.getfield 22, 3) := by decide +kernel
theorem d_Outlook_filledBehind_78 : decode og_c_Outlook_filledBehind 78 = .ok (.getfield 60, 3) := by decide +kernel
theorem d_Outlook_filledBehind_81 : decode og_c_Outlook_filledBehind 81 = .ok (.aload_n 2, 1) := by decide +kernel
theorem d_Outlook_filledBehind_82 : decode og_c_Outlook_filledBehind 82 = .ok (.getfield 60, 3) := by decide +kernel
theorem d_Outlook_filledBehind_85 : decode og_c_Outlook_filledBehind 85 = .ok (.isub, 1) := by decide +kernel
theorem d_Outlook_filledBehind_86 : decode og_c_Outlook_filledBehind 86 = .ok (.goto 4, 3) := by decide +kernel
theorem d_Outlook_filledBehind_89 : decode og_c_Outlook_filledBehind 89 = .ok (.iconst (-1), 1) := by decide +kernel
theorem d_Outlook_filledBehind_90 : decode og_c_Outlook_filledBehind 90 = .ok (.ireturn, 1) := by decide +kernel
def m_Outlook_filledBehind : og_Dn := og_den [11, 15, 16, 0] 6 0 (og_seq (og_exp (og_call m_Yard_become [og_fix (fun _ => 110) (og_loc 0), og_loc 2])) (og_seq (og_set 4 (og_min (og_k 60) (og_sub (og_k 999) (og_get 2 (og_loc 2))))) (og_cut (og_seq (og_set 5 (og_k 0)) (og_while (og_and (og_cc og_rlt (og_loc 5) (og_loc 4)) (og_not (og_cb (og_call m_Yard_isFilled [og_fix (fun _ => 110) (og_loc 0), og_loc 3])))) (og_exp (og_call m_Almanac_pass [og_fix (fun _ => 8) (og_loc 0), og_loc 1, og_fix (fun _ => 110) (og_loc 0)])) (og_inc 5 1))) (og_ret (og_ei (og_cb (og_call m_Yard_isFilled [og_fix (fun _ => 110) (og_loc 0), og_loc 3])) (og_sub (og_get 2 (og_fix (fun _ => 110) (og_loc 0))) (og_get 2 (og_loc 2))) (og_k (-1)))))))
set_option maxRecDepth 20000 in
theorem ok_Outlook_filledBehind : og_MOK og_y_Outlook_filledBehind og_c_Outlook_filledBehind 6 0 6 [11, 15, 16, 0] m_Outlook_filledBehind := og_method (b := 0) (lt' := []) (by decide +kernel) (by decide) (by decide) (og_sseq (og_callVv (og_acons (og_f_Outlook_trial (og_aload_n (i := 0) (t := 9) (j := 0) (by rfl) (by rfl) d_Outlook_filledBehind_0) og_w319 d_Outlook_filledBehind_1) (og_acons (og_aload_n (i := 2) (t := 14) (j := 2) (by rfl) (by rfl) d_Outlook_filledBehind_4) (og_anil))) ok_Yard_become (v_Yard_become (by decide)) og_w821 d_Outlook_filledBehind_5) (og_sseq (og_istore (i := 4) (lt' := [(0, 11), (1, 15), (2, 16), (3, 0), (4, 0)]) (og_imin (og_bipush (by decide) d_Outlook_filledBehind_8) (og_isub (og_sipush (by decide) d_Outlook_filledBehind_10) (og_f_Yard_month_N (og_aload_n (i := 2) (t := 14) (j := 2) (by rfl) (by rfl) d_Outlook_filledBehind_13) og_w56 d_Outlook_filledBehind_14) d_Outlook_filledBehind_17) (by decide) (by decide) og_w879 og_w747 og_w19 og_w748 d_Outlook_filledBehind_18) (by decide) (by decide) d_Outlook_filledBehind_21) (og_scut (og_sdrop (lt' := [(0, 11), (1, 15), (2, 16), (3, 0), (4, 0), (5, 0)]) (lt2 := [(0, 11), (1, 15), (2, 16), (3, 0), (4, 0)]) (og_sseq (og_istore (i := 5) (lt' := [(0, 11), (1, 15), (2, 16), (3, 0), (4, 0), (5, 0)]) (og_iconst (by decide) d_Outlook_filledBehind_23) (by decide) (by decide) d_Outlook_filledBehind_24) (og_swhile (T := 44) (F := 63) (cp0 := 57) (og_cand (og_ccn og_n_lt (og_ige (tgt := 63) (og_iload (i := 5) (j := 5) (by rfl) d_Outlook_filledBehind_26) (og_iload (i := 4) (j := 4) (by rfl) d_Outlook_filledBehind_28) d_Outlook_filledBehind_30 (by decide))) (og_cnot (og_cbne (tgt := 63) (og_callVz (og_acons (og_f_Outlook_trial (og_aload_n (i := 0) (t := 9) (j := 0) (by rfl) (by rfl) d_Outlook_filledBehind_33) og_w319 d_Outlook_filledBehind_34) (og_acons (og_iload_n (i := 3) (j := 3) (by rfl) (by rfl) d_Outlook_filledBehind_37) (og_anil))) (by decide) ok_Yard_isFilled (v_Yard_isFilled (by decide)) og_w880 d_Outlook_filledBehind_38) d_Outlook_filledBehind_41 (by decide)))) (og_spop (og_callVi (og_acons (og_f_Outlook_almanac (og_aload_n (i := 0) (t := 9) (j := 0) (by rfl) (by rfl) d_Outlook_filledBehind_44) og_w317 d_Outlook_filledBehind_45) (og_acons (og_aload_n (i := 1) (t := 13) (j := 1) (by rfl) (by rfl) d_Outlook_filledBehind_48) (og_acons (og_f_Outlook_trial (og_aload_n (i := 0) (t := 9) (j := 0) (by rfl) (by rfl) d_Outlook_filledBehind_49) og_w319 d_Outlook_filledBehind_50) (og_anil)))) (by decide) ok_Almanac_pass (v_Almanac_pass (by decide)) og_w827 d_Outlook_filledBehind_53) d_Outlook_filledBehind_56) (og_gS (b' := 26) (og_iinc (j := 5) (lt' := [(0, 11), (1, 15), (2, 16), (3, 0), (4, 0), (5, 0)]) (by rfl) (by decide) (by decide) d_Outlook_filledBehind_57) d_Outlook_filledBehind_60 (by decide)))) (by decide)) (og_sreti (og_eite (og_cbeq (tgt := 89) (og_callVz (og_acons (og_f_Outlook_trial (og_aload_n (i := 0) (t := 9) (j := 0) (by rfl) (by rfl) d_Outlook_filledBehind_63) og_w319 d_Outlook_filledBehind_64) (og_acons (og_iload_n (i := 3) (j := 3) (by rfl) (by rfl) d_Outlook_filledBehind_67) (og_anil))) (by decide) ok_Yard_isFilled (v_Yard_isFilled (by decide)) og_w880 d_Outlook_filledBehind_68) d_Outlook_filledBehind_71 (by decide)) (og_isub (og_f_Yard_month_N (og_f_Outlook_trial (og_aload_n (i := 0) (t := 9) (j := 0) (by rfl) (by rfl) d_Outlook_filledBehind_74) og_w319 d_Outlook_filledBehind_75) og_w56 d_Outlook_filledBehind_78) (og_f_Yard_month_N (og_aload_n (i := 2) (t := 14) (j := 2) (by rfl) (by rfl) d_Outlook_filledBehind_81) og_w56 d_Outlook_filledBehind_82) d_Outlook_filledBehind_85) d_Outlook_filledBehind_86 (by decide) (og_iconst (by decide) d_Outlook_filledBehind_89)) d_Outlook_filledBehind_90)))) (fun h => by cases h)
abbrev og_c_OG_filled : ByteArray := prog_1_method_14_code
abbrev og_y_OG_filled : MethodName := ⟨"OpenGraves", "filled", "(I)I"⟩
theorem v_OG_filled {own : String} {idx dep : Nat} (h : 7 + 1 ≤ dep) : og_sV own idx og_y_OG_filled og_c_OG_filled 2 0 7 dep 1 1 := ⟨⟨0, og_sl_OG, og_T_OG, 17, rfl, by decide, rfl⟩, og_w872, og_w873, og_w1, og_w874, ⟨by decide +kernel, by decide +kernel, by decide +kernel⟩, h, by decide⟩
theorem d_OG_filled_0 : decode og_c_OG_filled 0 = .ok (.aload_n 0, 1) := by decide +kernel
theorem d_OG_filled_1 : decode og_c_OG_filled 1 = .ok (.getfield 90, 3) := by decide +kernel
theorem d_OG_filled_4 : decode og_c_OG_filled 4 = .ok (.iload_n 1, 1) := by decide +kernel
theorem d_OG_filled_5 : decode og_c_OG_filled 5 = .ok (.invokevirtual 167, 3) := by decide +kernel
theorem d_OG_filled_8 : decode og_c_OG_filled 8 = .ok (.ifCond .ne 5, 3) := by decide +kernel
theorem d_OG_filled_11 : decode og_c_OG_filled 11 = .ok (.iconst (-1), 1) := by decide +kernel
theorem d_OG_filled_12 : decode og_c_OG_filled 12 = .ok (.ireturn, 1) := by decide +kernel
theorem d_OG_filled_13 : decode og_c_OG_filled 13 = .ok (.aload_n 0, 1) := by decide +kernel
theorem d_OG_filled_14 : decode og_c_OG_filled 14 = .ok (.getfield 69, 3) := by decide +kernel
theorem d_OG_filled_17 : decode og_c_OG_filled 17 = .ok (.aload_n 0, 1) := by decide +kernel
theorem d_OG_filled_18 : decode og_c_OG_filled 18 = .ok (.getfield 10, 3) := by decide +kernel
theorem d_OG_filled_21 : decode og_c_OG_filled 21 = .ok (.getfield 37, 3) := by decide +kernel
theorem d_OG_filled_24 : decode og_c_OG_filled 24 = .ok (.aload_n 0, 1) := by decide +kernel
theorem d_OG_filled_25 : decode og_c_OG_filled 25 = .ok (.getfield 90, 3) := by decide +kernel
theorem d_OG_filled_28 : decode og_c_OG_filled 28 = .ok (.iload_n 1, 1) := by decide +kernel
theorem d_OG_filled_29 : decode og_c_OG_filled 29 = .ok (.invokevirtual 236, 3) := by decide +kernel
theorem d_OG_filled_32 : decode og_c_OG_filled 32 = .ok (.ireturn, 1) := by decide +kernel
def m_OG_filled : og_Dn := og_den [5, 0] 2 0 (og_seq (og_if (og_not (og_cb (og_call m_Yard_isGrave [og_fix (fun _ => 100) (og_loc 0), og_loc 1]))) (og_ret (og_k (-1))) (og_skip)) (og_ret (og_call m_Outlook_filledBehind [og_fix (fun _ => 10) (og_loc 0), og_fix (fun i => i + 2) (og_get 15 (og_loc 0)), og_fix (fun _ => 100) (og_loc 0), og_loc 1])))
set_option maxRecDepth 20000 in
theorem ok_OG_filled : og_MOK og_y_OG_filled og_c_OG_filled 2 0 7 [5, 0] m_OG_filled := og_method (b := 0) (lt' := []) (by decide +kernel) (by decide) (by decide) (og_sseq (og_sif (T := 11) (F := 13) (og_cnot (og_cbne (tgt := 13) (og_callVz (og_acons (og_f_OG_now (og_aload_n (i := 0) (t := 3) (j := 0) (by rfl) (by rfl) d_OG_filled_0) og_w397 d_OG_filled_1) (og_acons (og_iload_n (i := 1) (j := 1) (by rfl) (by rfl) d_OG_filled_4) (og_anil))) (by decide) ok_Yard_isGrave (v_Yard_isGrave (by decide)) og_w712 d_OG_filled_5) d_OG_filled_8 (by decide))) (og_sreti (og_iconst (by decide) d_OG_filled_11) d_OG_filled_12) (og_sskip)) (og_sreti (og_callVi (og_acons (og_f_OG_outlook (og_aload_n (i := 0) (t := 3) (j := 0) (by rfl) (by rfl) d_OG_filled_13) og_w394 d_OG_filled_14) (og_acons (og_f_Parish_rules_N (og_f_OG_told (og_aload_n (i := 0) (t := 3) (j := 0) (by rfl) (by rfl) d_OG_filled_17) og_w404 d_OG_filled_18) og_w150 d_OG_filled_21) (og_acons (og_f_OG_now (og_aload_n (i := 0) (t := 3) (j := 0) (by rfl) (by rfl) d_OG_filled_24) og_w397 d_OG_filled_25) (og_acons (og_iload_n (i := 1) (j := 1) (by rfl) (by rfl) d_OG_filled_28) (og_anil))))) (by decide) ok_Outlook_filledBehind (v_Outlook_filledBehind (by decide)) og_w875 d_OG_filled_29) d_OG_filled_32)) (fun h => by cases h)
abbrev og_c_OG_taken : ByteArray := prog_1_method_15_code
abbrev og_y_OG_taken : MethodName := ⟨"OpenGraves", "taken", "(I)I"⟩
theorem v_OG_taken {own : String} {idx dep : Nat} (h : 8 + 1 ≤ dep) : og_sV own idx og_y_OG_taken og_c_OG_taken 2 0 8 dep 1 1 := ⟨⟨0, og_sl_OG, og_T_OG, 17, rfl, by decide, rfl⟩, og_w882, og_w883, og_w1, og_w884, ⟨by decide +kernel, by decide +kernel, by decide +kernel⟩, h, by decide⟩
theorem d_OG_taken_0 : decode og_c_OG_taken 0 = .ok (.aload_n 0, 1) := by decide +kernel
theorem d_OG_taken_1 : decode og_c_OG_taken 1 = .ok (.iload_n 1, 1) := by decide +kernel
theorem d_OG_taken_2 : decode og_c_OG_taken 2 = .ok (.invokevirtual 226, 3) := by decide +kernel
theorem d_OG_taken_5 : decode og_c_OG_taken 5 = .ok (.ifCond .eq 25, 3) := by decide +kernel
theorem d_OG_taken_8 : decode og_c_OG_taken 8 = .ok (.aload_n 0, 1) := by decide +kernel
theorem d_OG_taken_9 : decode og_c_OG_taken 9 = .ok (.getfield 69, 3) := by decide +kernel
theorem d_OG_taken_12 : decode og_c_OG_taken 12 = .ok (.aload_n 0, 1) := by decide +kernel
theorem d_OG_taken_13 : decode og_c_OG_taken 13 = .ok (.getfield 10, 3) := by decide +kernel
theorem d_OG_taken_16 : decode og_c_OG_taken 16 = .ok (.getfield 37, 3) := by decide +kernel
theorem d_OG_taken_19 : decode og_c_OG_taken 19 = .ok (.aload_n 0, 1) := by decide +kernel
theorem d_OG_taken_20 : decode og_c_OG_taken 20 = .ok (.getfield 90, 3) := by decide +kernel
theorem d_OG_taken_23 : decode og_c_OG_taken 23 = .ok (.iload_n 1, 1) := by decide +kernel
theorem d_OG_taken_24 : decode og_c_OG_taken 24 = .ok (.invokevirtual 229, 3) := by decide +kernel
theorem d_OG_taken_27 : decode og_c_OG_taken 27 = .ok (.goto 4, 3) := by decide +kernel
theorem d_OG_taken_30 : decode og_c_OG_taken 30 = .ok (.iconst (-1), 1) := by decide +kernel
theorem d_OG_taken_31 : decode og_c_OG_taken 31 = .ok (.ireturn, 1) := by decide +kernel
def m_OG_taken : og_Dn := og_den [5, 0] 2 0 (og_ret (og_ei (og_cb (og_call m_OG_comesAhead [og_loc 0, og_loc 1])) (og_call m_Outlook_takenIn [og_fix (fun _ => 10) (og_loc 0), og_fix (fun i => i + 2) (og_get 15 (og_loc 0)), og_fix (fun _ => 100) (og_loc 0), og_loc 1]) (og_k (-1))))
set_option maxRecDepth 20000 in
theorem ok_OG_taken : og_MOK og_y_OG_taken og_c_OG_taken 2 0 8 [5, 0] m_OG_taken := og_method (b := 0) (lt' := []) (by decide +kernel) (by decide) (by decide) (og_sreti (og_eite (og_cbeq (tgt := 30) (og_callVz (og_acons (og_aload_n (i := 0) (t := 3) (j := 0) (by rfl) (by rfl) d_OG_taken_0) (og_acons (og_iload_n (i := 1) (j := 1) (by rfl) (by rfl) d_OG_taken_1) (og_anil))) (by decide) ok_OG_comesAhead (v_OG_comesAhead (by decide)) og_w813 d_OG_taken_2) d_OG_taken_5 (by decide)) (og_callVi (og_acons (og_f_OG_outlook (og_aload_n (i := 0) (t := 3) (j := 0) (by rfl) (by rfl) d_OG_taken_8) og_w394 d_OG_taken_9) (og_acons (og_f_Parish_rules_N (og_f_OG_told (og_aload_n (i := 0) (t := 3) (j := 0) (by rfl) (by rfl) d_OG_taken_12) og_w404 d_OG_taken_13) og_w150 d_OG_taken_16) (og_acons (og_f_OG_now (og_aload_n (i := 0) (t := 3) (j := 0) (by rfl) (by rfl) d_OG_taken_19) og_w397 d_OG_taken_20) (og_acons (og_iload_n (i := 1) (j := 1) (by rfl) (by rfl) d_OG_taken_23) (og_anil))))) (by decide) ok_Outlook_takenIn (v_Outlook_takenIn (by decide)) og_w817 d_OG_taken_24) d_OG_taken_27 (by decide) (og_iconst (by decide) d_OG_taken_30)) d_OG_taken_31) (fun h => by cases h)
abbrev og_c_Rows_isFree : ByteArray := prog_8_method_5_code
abbrev og_y_Rows_isFree : MethodName := ⟨"OpenGraves$Rows", "isFree", "(LOpenGraves$Yard;III)Z"⟩
theorem v_Rows_isFree {own : String} {idx dep : Nat} (h : 3 + 1 ≤ dep) : og_sV own idx og_y_Rows_isFree og_c_Rows_isFree 5 3 3 dep 8 4 := ⟨⟨7, og_sl_Rows, og_T_Rows, 3, rfl, by decide, rfl⟩, og_w899, (og_memP (⟨"OpenGraves$Rows", "isFree", "(LOpenGraves$Yard;III)Z"⟩, 3) (List.mem_of_getElem? (i := 34) (by decide +kernel))), og_w15, og_w900, ⟨by decide +kernel, by decide +kernel, by decide +kernel⟩, h, by decide⟩
theorem d_Rows_isFree_0 : decode og_c_Rows_isFree 0 = .ok (.aload_n 1, 1) := by decide +kernel
theorem d_Rows_isFree_1 : decode og_c_Rows_isFree 1 = .ok (.iload_n 2, 1) := by decide +kernel
theorem d_Rows_isFree_2 : decode og_c_Rows_isFree 2 = .ok (.invokevirtual 51, 3) := by decide +kernel
theorem d_Rows_isFree_5 : decode og_c_Rows_isFree 5 = .ok (.ifCond .eq 35, 3) := by decide +kernel
theorem d_Rows_isFree_8 : decode og_c_Rows_isFree 8 = .ok (.aload_n 1, 1) := by decide +kernel
theorem d_Rows_isFree_9 : decode og_c_Rows_isFree 9 = .ok (.iload 4, 2) := by decide +kernel
theorem d_Rows_isFree_11 : decode og_c_Rows_isFree 11 = .ok (.invokevirtual 55, 3) := by decide +kernel
theorem d_Rows_isFree_14 : decode og_c_Rows_isFree 14 = .ok (.ifCond .eq 26, 3) := by decide +kernel
theorem d_Rows_isFree_17 : decode og_c_Rows_isFree 17 = .ok (.aload_n 1, 1) := by decide +kernel
theorem d_Rows_isFree_18 : decode og_c_Rows_isFree 18 = .ok (.iload 4, 2) := by decide +kernel
theorem d_Rows_isFree_20 : decode og_c_Rows_isFree 20 = .ok (.iload_n 2, 1) := by decide +kernel
theorem d_Rows_isFree_21 : decode og_c_Rows_isFree 21 = .ok (.invokevirtual 58, 3) := by decide +kernel
theorem d_Rows_isFree_24 : decode og_c_Rows_isFree 24 = .ok (.ifCond .eq 16, 3) := by decide +kernel
theorem d_Rows_isFree_27 : decode og_c_Rows_isFree 27 = .ok (.iload_n 3, 1) := by decide +kernel
theorem d_Rows_isFree_28 : decode og_c_Rows_isFree 28 = .ok (.iload 4, 2) := by decide +kernel
theorem d_Rows_isFree_30 : decode og_c_Rows_isFree 30 = .ok (.ishr, 1) := by decide +kernel
theorem d_Rows_isFree_31 : decode og_c_Rows_isFree 31 = .ok (.iconst 1, 1) := by decide +kernel
theorem d_Rows_isFree_32 : decode og_c_Rows_isFree 32 = .ok (.iand, 1) := by decide +kernel
theorem d_Rows_isFree_33 : decode og_c_Rows_isFree 33 = .ok (.ifCond .ne 7, 3) := by decide +kernel
theorem d_Rows_isFree_36 : decode og_c_Rows_isFree 36 = .ok (.iconst 1, 1) := by decide +kernel
theorem d_Rows_isFree_37 : decode og_c_Rows_isFree 37 = .ok (.goto 4, 3) := by decide +kernel
theorem d_Rows_isFree_40 : decode og_c_Rows_isFree 40 = .ok (.iconst 0, 1) := by decide +kernel
theorem d_Rows_isFree_41 : decode og_c_Rows_isFree 41 = .ok (.ireturn, 1) := by decide +kernel
def m_Rows_isFree : og_Dn := og_den [12, 16, 0, 0, 0] 5 3 (og_retz (og_ec (og_and (og_and (og_and (og_cb (og_call m_Yard_asks [og_loc 1, og_loc 2])) (og_cb (og_call m_Yard_lives [og_loc 1, og_loc 4]))) (og_cb (og_call m_Yard_fits [og_loc 1, og_loc 4, og_loc 2]))) (og_cc og_req (og_bop og_oand (og_bop og_oshr (og_loc 3) (og_loc 4)) (og_k 1)) (og_k 0)))))
set_option maxRecDepth 20000 in
theorem ok_Rows_isFree : og_MOK og_y_Rows_isFree og_c_Rows_isFree 5 3 3 [12, 16, 0, 0, 0] m_Rows_isFree := og_method (b := 0) (lt' := []) (by decide +kernel) (by decide) (by decide) (og_sretz (og_econd (b := 0) (og_cand (og_cand (og_cand (og_cbeq (tgt := 40) (og_callVz (og_acons (og_aload_n (i := 1) (t := 14) (j := 1) (by rfl) (by rfl) d_Rows_isFree_0) (og_acons (og_iload_n (i := 2) (j := 2) (by rfl) (by rfl) d_Rows_isFree_1) (og_anil))) (by decide) ok_Yard_asks (v_Yard_asks (by decide)) og_w901 d_Rows_isFree_2) d_Rows_isFree_5 (by decide)) (og_cbeq (tgt := 40) (og_callVz (og_acons (og_aload_n (i := 1) (t := 14) (j := 1) (by rfl) (by rfl) d_Rows_isFree_8) (og_acons (og_iload (i := 4) (j := 4) (by rfl) d_Rows_isFree_9) (og_anil))) (by decide) ok_Yard_lives (v_Yard_lives (by decide)) og_w902 d_Rows_isFree_11) d_Rows_isFree_14 (by decide))) (og_cbeq (tgt := 40) (og_callVz (og_acons (og_aload_n (i := 1) (t := 14) (j := 1) (by rfl) (by rfl) d_Rows_isFree_17) (og_acons (og_iload (i := 4) (j := 4) (by rfl) d_Rows_isFree_18) (og_acons (og_iload_n (i := 2) (j := 2) (by rfl) (by rfl) d_Rows_isFree_20) (og_anil)))) (by decide) ok_Yard_fits (v_Yard_fits (by decide)) og_w903 d_Rows_isFree_21) d_Rows_isFree_24 (by decide))) (og_ccn og_n_eq (og_zne (tgt := 40) (og_iand (og_ishr (og_iload_n (i := 3) (j := 3) (by rfl) (by rfl) d_Rows_isFree_27) (og_iload (i := 4) (j := 4) (by rfl) d_Rows_isFree_28) d_Rows_isFree_30) (og_iconst (by decide) d_Rows_isFree_31) d_Rows_isFree_32) d_Rows_isFree_33 (by decide)))) d_Rows_isFree_36 d_Rows_isFree_37 (by decide) d_Rows_isFree_40 (by rfl)) d_Rows_isFree_41) (fun h => by cases h)
abbrev og_c_Rows_with : ByteArray := prog_8_method_6_code
abbrev og_y_Rows_with : MethodName := ⟨"OpenGraves$Rows", "with", "(III)I"⟩
theorem v_Rows_with {own : String} {idx dep : Nat} (h : 1 + 1 ≤ dep) : og_sV own idx og_y_Rows_with og_c_Rows_with 4 0 1 dep 8 3 := ⟨⟨7, og_sl_Rows, og_T_Rows, 3, rfl, by decide, rfl⟩, og_w906, (og_memP (⟨"OpenGraves$Rows", "with", "(III)I"⟩, 3) (List.mem_of_getElem? (i := 35) (by decide +kernel))), og_w15, og_w907, ⟨by decide +kernel, by decide +kernel, by decide +kernel⟩, h, by decide⟩
theorem d_Rows_with_0 : decode og_c_Rows_with 0 = .ok (.sipush 10000, 3) := by decide +kernel
theorem d_Rows_with_3 : decode og_c_Rows_with 3 = .ok (.aload_n 0, 1) := by decide +kernel
theorem d_Rows_with_4 : decode og_c_Rows_with 4 = .ok (.getfield 9, 3) := by decide +kernel
theorem d_Rows_with_7 : decode og_c_Rows_with 7 = .ok (.iload_n 3, 1) := by decide +kernel
theorem d_Rows_with_8 : decode og_c_Rows_with 8 = .ok (.iaload, 1) := by decide +kernel
theorem d_Rows_with_9 : decode og_c_Rows_with 9 = .ok (.isub, 1) := by decide +kernel
theorem d_Rows_with_10 : decode og_c_Rows_with 10 = .ok (.aload_n 0, 1) := by decide +kernel
theorem d_Rows_with_11 : decode og_c_Rows_with 11 = .ok (.getfield 18, 3) := by decide +kernel
theorem d_Rows_with_14 : decode og_c_Rows_with 14 = .ok (.sipush 256, 3) := by decide +kernel
theorem d_Rows_with_17 : decode og_c_Rows_with 17 = .ok (.iload_n 1, 1) := by decide +kernel
theorem d_Rows_with_18 : decode og_c_Rows_with 18 = .ok (.iconst 1, 1) := by decide +kernel
theorem d_Rows_with_19 : decode og_c_Rows_with 19 = .ok (.iadd, 1) := by decide +kernel
theorem d_Rows_with_20 : decode og_c_Rows_with 20 = .ok (.imul, 1) := by decide +kernel
theorem d_Rows_with_21 : decode og_c_Rows_with 21 = .ok (.iload_n 2, 1) := by decide +kernel
theorem d_Rows_with_22 : decode og_c_Rows_with 22 = .ok (.iconst 1, 1) := by decide +kernel
theorem d_Rows_with_23 : decode og_c_Rows_with 23 = .ok (.iload_n 3, 1) := by decide +kernel
theorem d_Rows_with_24 : decode og_c_Rows_with 24 = .ok (.ishl, 1) := by decide +kernel
theorem d_Rows_with_25 : decode og_c_Rows_with 25 = .ok (.ior, 1) := by decide +kernel
theorem d_Rows_with_26 : decode og_c_Rows_with 26 = .ok (.iadd, 1) := by decide +kernel
theorem d_Rows_with_27 : decode og_c_Rows_with 27 = .ok (.iaload, 1) := by decide +kernel
theorem d_Rows_with_28 : decode og_c_Rows_with 28 = .ok (.iadd, 1) := by decide +kernel
theorem d_Rows_with_29 : decode og_c_Rows_with 29 = .ok (.ireturn, 1) := by decide +kernel
def m_Rows_with : og_Dn := og_den [12, 0, 0, 0] 4 0 (og_ret (og_add (og_sub (og_k 10000) (og_ald 8 (og_fix (fun _ => 17) (og_loc 0)) (og_loc 3))) (og_ald 1792 (og_fix (fun _ => 19) (og_loc 0)) (og_add (og_mul (og_k 256) (og_add (og_loc 1) (og_k 1))) (og_bop og_oor (og_loc 2) (og_bop og_oshl (og_k 1) (og_loc 3)))))))
set_option maxRecDepth 20000 in
theorem ok_Rows_with : og_MOK og_y_Rows_with og_c_Rows_with 4 0 1 [12, 0, 0, 0] m_Rows_with := og_method (b := 0) (lt' := []) (by decide +kernel) (by decide) (by decide) (og_sreti (og_iadd (og_isub (og_sipush (by decide) d_Rows_with_0) (og_iald (N := 8) (og_f_Rows_harm (og_aload_n (i := 0) (t := 10) (j := 0) (by rfl) (by rfl) d_Rows_with_3) og_w355 d_Rows_with_4) (by rfl) (og_iload_n (i := 3) (j := 3) (by rfl) (by rfl) d_Rows_with_7) d_Rows_with_8) d_Rows_with_9) (og_iald (N := 1792) (og_f_Rows_best (og_aload_n (i := 0) (t := 10) (j := 0) (by rfl) (by rfl) d_Rows_with_10) og_w359 d_Rows_with_11) (by rfl) (og_iadd (og_imul (og_sipush (by decide) d_Rows_with_14) (og_iadd (og_iload_n (i := 1) (j := 1) (by rfl) (by rfl) d_Rows_with_17) (og_iconst (by decide) d_Rows_with_18) d_Rows_with_19) d_Rows_with_20) (og_ior (og_iload_n (i := 2) (j := 2) (by rfl) (by rfl) d_Rows_with_21) (og_ishl (og_iconst (by decide) d_Rows_with_22) (og_iload_n (i := 3) (j := 3) (by rfl) (by rfl) d_Rows_with_23) d_Rows_with_24) d_Rows_with_25) d_Rows_with_26) d_Rows_with_27) d_Rows_with_28) d_Rows_with_29) (fun h => by cases h)
abbrev og_c_Rows_bestFrom : ByteArray := prog_8_method_3_code
abbrev og_y_Rows_bestFrom : MethodName := ⟨"OpenGraves$Rows", "bestFrom", "(LOpenGraves$Yard;II)I"⟩
theorem v_Rows_bestFrom {own : String} {idx dep : Nat} (h : 4 + 1 ≤ dep) : og_sV own idx og_y_Rows_bestFrom og_c_Rows_bestFrom 6 0 4 dep 8 3 := ⟨⟨7, og_sl_Rows, og_T_Rows, 3, rfl, by decide, rfl⟩, og_w895, (og_memP (⟨"OpenGraves$Rows", "bestFrom", "(LOpenGraves$Yard;II)I"⟩, 3) (List.mem_of_getElem? (i := 33) (by decide +kernel))), og_w15, og_w896, ⟨by decide +kernel, by decide +kernel, by decide +kernel⟩, h, by decide⟩
theorem d_Rows_bestFrom_0 : decode og_c_Rows_bestFrom 0 = .ok (.aload_n 0, 1) := by decide +kernel
theorem d_Rows_bestFrom_1 : decode og_c_Rows_bestFrom 1 = .ok (.getfield 18, 3) := by decide +kernel
theorem d_Rows_bestFrom_4 : decode og_c_Rows_bestFrom 4 = .ok (.sipush 256, 3) := by decide +kernel
theorem d_Rows_bestFrom_7 : decode og_c_Rows_bestFrom 7 = .ok (.iload_n 2, 1) := by decide +kernel
theorem d_Rows_bestFrom_8 : decode og_c_Rows_bestFrom 8 = .ok (.iconst 1, 1) := by decide +kernel
theorem d_Rows_bestFrom_9 : decode og_c_Rows_bestFrom 9 = .ok (.iadd, 1) := by decide +kernel
theorem d_Rows_bestFrom_10 : decode og_c_Rows_bestFrom 10 = .ok (.imul, 1) := by decide +kernel
theorem d_Rows_bestFrom_11 : decode og_c_Rows_bestFrom 11 = .ok (.iload_n 3, 1) := by decide +kernel
theorem d_Rows_bestFrom_12 : decode og_c_Rows_bestFrom 12 = .ok (.iadd, 1) := by decide +kernel
theorem d_Rows_bestFrom_13 : decode og_c_Rows_bestFrom 13 = .ok (.iaload, 1) := by decide +kernel
theorem d_Rows_bestFrom_14 : decode og_c_Rows_bestFrom 14 = .ok (.istore 4, 2) := by decide +kernel
theorem d_Rows_bestFrom_16 : decode og_c_Rows_bestFrom 16 = .ok (.iconst 0, 1) := by decide +kernel
theorem d_Rows_bestFrom_17 : decode og_c_Rows_bestFrom 17 = .ok (.istore 5, 2) := by decide +kernel
theorem d_Rows_bestFrom_19 : decode og_c_Rows_bestFrom 19 = .ok (.iload 5, 2) := by decide +kernel
theorem d_Rows_bestFrom_21 : decode og_c_Rows_bestFrom 21 = .ok (.aload_n 1, 1) := by decide +kernel
theorem d_Rows_bestFrom_22 : decode og_c_Rows_bestFrom 22 = .ok (.getfield 27, 3) := by decide +kernel
theorem d_Rows_bestFrom_25 : decode og_c_Rows_bestFrom 25 = .ok (.if_icmp .ge 36, 3) := by decide +kernel
theorem d_Rows_bestFrom_28 : decode og_c_Rows_bestFrom 28 = .ok (.aload_n 0, 1) := by decide +kernel
theorem d_Rows_bestFrom_29 : decode og_c_Rows_bestFrom 29 = .ok (.aload_n 1, 1) := by decide +kernel
theorem d_Rows_bestFrom_30 : decode og_c_Rows_bestFrom 30 = .ok (.iload_n 2, 1) := by decide +kernel
theorem d_Rows_bestFrom_31 : decode og_c_Rows_bestFrom 31 = .ok (.iload_n 3, 1) := by decide +kernel
theorem d_Rows_bestFrom_32 : decode og_c_Rows_bestFrom 32 = .ok (.iload 5, 2) := by decide +kernel
theorem d_Rows_bestFrom_34 : decode og_c_Rows_bestFrom 34 = .ok (.invokevirtual 37, 3) := by decide +kernel
theorem d_Rows_bestFrom_37 : decode og_c_Rows_bestFrom 37 = .ok (.ifCond .eq 18, 3) := by decide +kernel
theorem d_Rows_bestFrom_40 : decode og_c_Rows_bestFrom 40 = .ok (.iload 4, 2) := by decide +kernel
theorem d_Rows_bestFrom_42 : decode og_c_Rows_bestFrom 42 = .ok (.aload_n 0, 1) := by decide +kernel
theorem d_Rows_bestFrom_43 : decode og_c_Rows_bestFrom 43 = .ok (.iload_n 2, 1) := by decide +kernel
theorem d_Rows_bestFrom_44 : decode og_c_Rows_bestFrom 44 = .ok (.iload_n 3, 1) := by decide +kernel
theorem d_Rows_bestFrom_45 : decode og_c_Rows_bestFrom 45 = .ok (.iload 5, 2) := by decide +kernel
theorem d_Rows_bestFrom_47 : decode og_c_Rows_bestFrom 47 = .ok (.invokevirtual 41, 3) := by decide +kernel
theorem d_Rows_bestFrom_50 : decode og_c_Rows_bestFrom 50 = .ok (.invokestatic 45, 3) := by decide +kernel
theorem d_Rows_bestFrom_53 : decode og_c_Rows_bestFrom 53 = .ok (.istore 4, 2) := by decide +kernel
theorem d_Rows_bestFrom_55 : decode og_c_Rows_bestFrom 55 = .ok (.iinc 5 1, 3) := by decide +kernel
theorem d_Rows_bestFrom_58 : decode og_c_Rows_bestFrom 58 = .ok (.goto (-39), 3) := by decide +kernel
theorem d_Rows_bestFrom_61 : decode og_c_Rows_bestFrom 61 = .ok (.iload 4, 2) := by decide +kernel
theorem d_Rows_bestFrom_63 : decode og_c_Rows_bestFrom 63 = .ok (.ireturn, 1) := by decide +kernel
def m_Rows_bestFrom : og_Dn := og_den [12, 16, 0, 0] 6 0 (og_seq (og_set 4 (og_ald 1792 (og_fix (fun _ => 19) (og_loc 0)) (og_add (og_mul (og_k 256) (og_add (og_loc 2) (og_k 1))) (og_loc 3)))) (og_cut (og_seq (og_set 5 (og_k 0)) (og_while (og_cc og_rlt (og_loc 5) (og_get 1 (og_loc 1))) (og_if (og_cb (og_call m_Rows_isFree [og_loc 0, og_loc 1, og_loc 2, og_loc 3, og_loc 5])) (og_set 4 (og_max (og_loc 4) (og_call m_Rows_with [og_loc 0, og_loc 2, og_loc 3, og_loc 5]))) (og_skip)) (og_inc 5 1))) (og_ret (og_loc 4))))
set_option maxRecDepth 20000 in
theorem ok_Rows_bestFrom : og_MOK og_y_Rows_bestFrom og_c_Rows_bestFrom 6 0 4 [12, 16, 0, 0] m_Rows_bestFrom := og_method (b := 0) (lt' := []) (by decide +kernel) (by decide) (by decide) (og_sseq (og_istore (i := 4) (lt' := [(0, 12), (1, 16), (2, 0), (3, 0), (4, 0)]) (og_iald (N := 1792) (og_f_Rows_best (og_aload_n (i := 0) (t := 10) (j := 0) (by rfl) (by rfl) d_Rows_bestFrom_0) og_w359 d_Rows_bestFrom_1) (by rfl) (og_iadd (og_imul (og_sipush (by decide) d_Rows_bestFrom_4) (og_iadd (og_iload_n (i := 2) (j := 2) (by rfl) (by rfl) d_Rows_bestFrom_7) (og_iconst (by decide) d_Rows_bestFrom_8) d_Rows_bestFrom_9) d_Rows_bestFrom_10) (og_iload_n (i := 3) (j := 3) (by rfl) (by rfl) d_Rows_bestFrom_11) d_Rows_bestFrom_12) d_Rows_bestFrom_13) (by decide) (by decide) d_Rows_bestFrom_14) (og_scut (og_sdrop (lt' := [(0, 12), (1, 16), (2, 0), (3, 0), (4, 0), (5, 0)]) (lt2 := [(0, 12), (1, 16), (2, 0), (3, 0), (4, 0)]) (og_sseq (og_istore (i := 5) (lt' := [(0, 12), (1, 16), (2, 0), (3, 0), (4, 0), (5, 0)]) (og_iconst (by decide) d_Rows_bestFrom_16) (by decide) (by decide) d_Rows_bestFrom_17) (og_swhile (T := 28) (F := 61) (cp0 := 55) (og_ccn og_n_lt (og_ige (tgt := 61) (og_iload (i := 5) (j := 5) (by rfl) d_Rows_bestFrom_19) (og_f_Yard_people_N (og_aload_n (i := 1) (t := 14) (j := 1) (by rfl) (by rfl) d_Rows_bestFrom_21) og_w49 d_Rows_bestFrom_22) d_Rows_bestFrom_25 (by decide))) (og_sif (T := 40) (F := 55) (og_cbeq (tgt := 55) (og_callVz (og_acons (og_aload_n (i := 0) (t := 10) (j := 0) (by rfl) (by rfl) d_Rows_bestFrom_28) (og_acons (og_aload_n (i := 1) (t := 14) (j := 1) (by rfl) (by rfl) d_Rows_bestFrom_29) (og_acons (og_iload_n (i := 2) (j := 2) (by rfl) (by rfl) d_Rows_bestFrom_30) (og_acons (og_iload_n (i := 3) (j := 3) (by rfl) (by rfl) d_Rows_bestFrom_31) (og_acons (og_iload (i := 5) (j := 5) (by rfl) d_Rows_bestFrom_32) (og_anil)))))) (by decide) ok_Rows_isFree (v_Rows_isFree (by decide)) og_w897 d_Rows_bestFrom_34) d_Rows_bestFrom_37 (by decide)) (og_istore (i := 4) (lt' := [(0, 12), (1, 16), (2, 0), (3, 0), (4, 0), (5, 0)]) (og_imax (og_iload (i := 4) (j := 4) (by rfl) d_Rows_bestFrom_40) (og_callVi (og_acons (og_aload_n (i := 0) (t := 10) (j := 0) (by rfl) (by rfl) d_Rows_bestFrom_42) (og_acons (og_iload_n (i := 2) (j := 2) (by rfl) (by rfl) d_Rows_bestFrom_43) (og_acons (og_iload_n (i := 3) (j := 3) (by rfl) (by rfl) d_Rows_bestFrom_44) (og_acons (og_iload (i := 5) (j := 5) (by rfl) d_Rows_bestFrom_45) (og_anil))))) (by decide) ok_Rows_with (v_Rows_with (by decide)) og_w904 d_Rows_bestFrom_47) (by decide) (by decide) og_w908 og_w767 og_w19 og_w768 d_Rows_bestFrom_50) (by decide) (by decide) d_Rows_bestFrom_53) (og_sskip)) (og_gS (b' := 19) (og_iinc (j := 5) (lt' := [(0, 12), (1, 16), (2, 0), (3, 0), (4, 0), (5, 0)]) (by rfl) (by decide) (by decide) d_Rows_bestFrom_55) d_Rows_bestFrom_58 (by decide)))) (by decide)) (og_sreti (og_iload (i := 4) (j := 4) (by rfl) d_Rows_bestFrom_61) d_Rows_bestFrom_63))) (fun h => by cases h)
abbrev og_c_Rows_firstBest : ByteArray := prog_8_method_4_code
abbrev og_y_Rows_firstBest : MethodName := ⟨"OpenGraves$Rows", "firstBest", "(LOpenGraves$Yard;II)I"⟩
theorem v_Rows_firstBest {own : String} {idx dep : Nat} (h : 4 + 1 ≤ dep) : og_sV own idx og_y_Rows_firstBest og_c_Rows_firstBest 6 0 4 dep 8 3 := ⟨⟨7, og_sl_Rows, og_T_Rows, 3, rfl, by decide, rfl⟩, og_w911, (og_memP (⟨"OpenGraves$Rows", "firstBest", "(LOpenGraves$Yard;II)I"⟩, 3) (List.mem_of_getElem? (i := 36) (by decide +kernel))), og_w15, og_w912, ⟨by decide +kernel, by decide +kernel, by decide +kernel⟩, h, by decide⟩
theorem d_Rows_firstBest_0 : decode og_c_Rows_firstBest 0 = .ok (.aload_n 0, 1) := by decide +kernel
theorem d_Rows_firstBest_1 : decode og_c_Rows_firstBest 1 = .ok (.getfield 18, 3) := by decide +kernel
theorem d_Rows_firstBest_4 : decode og_c_Rows_firstBest 4 = .ok (.sipush 256, 3) := by decide +kernel
theorem d_Rows_firstBest_7 : decode og_c_Rows_firstBest 7 = .ok (.iload_n 2, 1) := by decide +kernel
theorem d_Rows_firstBest_8 : decode og_c_Rows_firstBest 8 = .ok (.imul, 1) := by decide +kernel
theorem d_Rows_firstBest_9 : decode og_c_Rows_firstBest 9 = .ok (.iload_n 3, 1) := by decide +kernel
theorem d_Rows_firstBest_10 : decode og_c_Rows_firstBest 10 = .ok (.iadd, 1) := by decide +kernel
theorem d_Rows_firstBest_11 : decode og_c_Rows_firstBest 11 = .ok (.iaload, 1) := by decide +kernel
theorem d_Rows_firstBest_12 : decode og_c_Rows_firstBest 12 = .ok (.istore 4, 2) := by decide +kernel
theorem d_Rows_firstBest_14 : decode og_c_Rows_firstBest 14 = .ok (.aload_n 0, 1) := by decide +kernel
theorem d_Rows_firstBest_15 : decode og_c_Rows_firstBest 15 = .ok (.getfield 18, 3) := by decide +kernel
theorem d_Rows_firstBest_18 : decode og_c_Rows_firstBest 18 = .ok (.sipush 256, 3) := by decide +kernel
theorem d_Rows_firstBest_21 : decode og_c_Rows_firstBest 21 = .ok (.iload_n 2, 1) := by decide +kernel
theorem d_Rows_firstBest_22 : decode og_c_Rows_firstBest 22 = .ok (.iconst 1, 1) := by decide +kernel
theorem d_Rows_firstBest_23 : decode og_c_Rows_firstBest 23 = .ok (.iadd, 1) := by decide +kernel
theorem d_Rows_firstBest_24 : decode og_c_Rows_firstBest 24 = .ok (.imul, 1) := by decide +kernel
theorem d_Rows_firstBest_25 : decode og_c_Rows_firstBest 25 = .ok (.iload_n 3, 1) := by decide +kernel
theorem d_Rows_firstBest_26 : decode og_c_Rows_firstBest 26 = .ok (.iadd, 1) := by decide +kernel
theorem d_Rows_firstBest_27 : decode og_c_Rows_firstBest 27 = .ok (.iaload, 1) := by decide +kernel
theorem d_Rows_firstBest_28 : decode og_c_Rows_firstBest 28 = .ok (.iload 4, 2) := by decide +kernel
theorem d_Rows_firstBest_30 : decode og_c_Rows_firstBest 30 = .ok (.if_icmp .ne 5, 3) := by decide +kernel
theorem d_Rows_firstBest_33 : decode og_c_Rows_firstBest 33 = .ok (.iconst (-1), 1) := by decide +kernel
theorem d_Rows_firstBest_34 : decode og_c_Rows_firstBest 34 = .ok (.ireturn, 1) := by decide +kernel
theorem d_Rows_firstBest_35 : decode og_c_Rows_firstBest 35 = .ok (.iconst 0, 1) := by decide +kernel
theorem d_Rows_firstBest_36 : decode og_c_Rows_firstBest 36 = .ok (.istore 5, 2) := by decide +kernel
theorem d_Rows_firstBest_38 : decode og_c_Rows_firstBest 38 = .ok (.iload 5, 2) := by decide +kernel
theorem d_Rows_firstBest_40 : decode og_c_Rows_firstBest 40 = .ok (.aload_n 1, 1) := by decide +kernel
theorem d_Rows_firstBest_41 : decode og_c_Rows_firstBest 41 = .ok (.getfield 27, 3) := by decide +kernel
theorem d_Rows_firstBest_44 : decode og_c_Rows_firstBest 44 = .ok (.if_icmp .ge 37, 3) := by decide +kernel
theorem d_Rows_firstBest_47 : decode og_c_Rows_firstBest 47 = .ok (.aload_n 0, 1) := by decide +kernel
theorem d_Rows_firstBest_48 : decode og_c_Rows_firstBest 48 = .ok (.aload_n 1, 1) := by decide +kernel
theorem d_Rows_firstBest_49 : decode og_c_Rows_firstBest 49 = .ok (.iload_n 2, 1) := by decide +kernel
theorem d_Rows_firstBest_50 : decode og_c_Rows_firstBest 50 = .ok (.iload_n 3, 1) := by decide +kernel
theorem d_Rows_firstBest_51 : decode og_c_Rows_firstBest 51 = .ok (.iload 5, 2) := by decide +kernel
theorem d_Rows_firstBest_53 : decode og_c_Rows_firstBest 53 = .ok (.invokevirtual 37, 3) := by decide +kernel
theorem d_Rows_firstBest_56 : decode og_c_Rows_firstBest 56 = .ok (.ifCond .eq 19, 3) := by decide +kernel
theorem d_Rows_firstBest_59 : decode og_c_Rows_firstBest 59 = .ok (.aload_n 0, 1) := by decide +kernel
theorem d_Rows_firstBest_60 : decode og_c_Rows_firstBest 60 = .ok (.iload_n 2, 1) := by decide +kernel
theorem d_Rows_firstBest_61 : decode og_c_Rows_firstBest 61 = .ok (.iload_n 3, 1) := by decide +kernel
theorem d_Rows_firstBest_62 : decode og_c_Rows_firstBest 62 = .ok (.iload 5, 2) := by decide +kernel
theorem d_Rows_firstBest_64 : decode og_c_Rows_firstBest 64 = .ok (.invokevirtual 41, 3) := by decide +kernel
theorem d_Rows_firstBest_67 : decode og_c_Rows_firstBest 67 = .ok (.iload 4, 2) := by decide +kernel
theorem d_Rows_firstBest_69 : decode og_c_Rows_firstBest 69 = .ok (.if_icmp .ne 6, 3) := by decide +kernel
theorem d_Rows_firstBest_72 : decode og_c_Rows_firstBest 72 = .ok (.iload 5, 2) := by decide +kernel
theorem d_Rows_firstBest_74 : decode og_c_Rows_firstBest 74 = .ok (.ireturn, 1) := by decide +kernel
theorem d_Rows_firstBest_75 : decode og_c_Rows_firstBest 75 = .ok (.iinc 5 1, 3) := by decide +kernel
theorem d_Rows_firstBest_78 : decode og_c_Rows_firstBest 78 = .ok (.goto (-40), 3) := by decide +kernel
theorem d_Rows_firstBest_81 : decode og_c_Rows_firstBest 81 = .ok (.iconst (-1), 1) := by decide +kernel
theorem d_Rows_firstBest_82 : decode og_c_Rows_firstBest 82 = .ok (.ireturn, 1) := by decide +kernel
def m_Rows_firstBest : og_Dn := og_den [12, 16, 0, 0] 6 0 (og_seq (og_set 4 (og_ald 1792 (og_fix (fun _ => 19) (og_loc 0)) (og_add (og_mul (og_k 256) (og_loc 2)) (og_loc 3)))) (og_seq (og_if (og_cc og_req (og_ald 1792 (og_fix (fun _ => 19) (og_loc 0)) (og_add (og_mul (og_k 256) (og_add (og_loc 2) (og_k 1))) (og_loc 3))) (og_loc 4)) (og_ret (og_k (-1))) (og_skip)) (og_cut (og_seq (og_set 5 (og_k 0)) (og_while (og_cc og_rlt (og_loc 5) (og_get 1 (og_loc 1))) (og_if (og_and (og_cb (og_call m_Rows_isFree [og_loc 0, og_loc 1, og_loc 2, og_loc 3, og_loc 5])) (og_cc og_req (og_call m_Rows_with [og_loc 0, og_loc 2, og_loc 3, og_loc 5]) (og_loc 4))) (og_ret (og_loc 5)) (og_skip)) (og_inc 5 1))) (og_ret (og_k (-1))))))
set_option maxRecDepth 20000 in
theorem ok_Rows_firstBest : og_MOK og_y_Rows_firstBest og_c_Rows_firstBest 6 0 4 [12, 16, 0, 0] m_Rows_firstBest := og_method (b := 0) (lt' := []) (by decide +kernel) (by decide) (by decide) (og_sseq (og_istore (i := 4) (lt' := [(0, 12), (1, 16), (2, 0), (3, 0), (4, 0)]) (og_iald (N := 1792) (og_f_Rows_best (og_aload_n (i := 0) (t := 10) (j := 0) (by rfl) (by rfl) d_Rows_firstBest_0) og_w359 d_Rows_firstBest_1) (by rfl) (og_iadd (og_imul (og_sipush (by decide) d_Rows_firstBest_4) (og_iload_n (i := 2) (j := 2) (by rfl) (by rfl) d_Rows_firstBest_7) d_Rows_firstBest_8) (og_iload_n (i := 3) (j := 3) (by rfl) (by rfl) d_Rows_firstBest_9) d_Rows_firstBest_10) d_Rows_firstBest_11) (by decide) (by decide) d_Rows_firstBest_12) (og_sseq (og_sif (T := 33) (F := 35) (og_ccn og_n_eq (og_ine (tgt := 35) (og_iald (N := 1792) (og_f_Rows_best (og_aload_n (i := 0) (t := 10) (j := 0) (by rfl) (by rfl) d_Rows_firstBest_14) og_w359 d_Rows_firstBest_15) (by rfl) (og_iadd (og_imul (og_sipush (by decide) d_Rows_firstBest_18) (og_iadd (og_iload_n (i := 2) (j := 2) (by rfl) (by rfl) d_Rows_firstBest_21) (og_iconst (by decide) d_Rows_firstBest_22) d_Rows_firstBest_23) d_Rows_firstBest_24) (og_iload_n (i := 3) (j := 3) (by rfl) (by rfl) d_Rows_firstBest_25) d_Rows_firstBest_26) d_Rows_firstBest_27) (og_iload (i := 4) (j := 4) (by rfl) d_Rows_firstBest_28) d_Rows_firstBest_30 (by decide))) (og_sreti (og_iconst (by decide) d_Rows_firstBest_33) d_Rows_firstBest_34) (og_sskip)) (og_scut (og_sdrop (lt' := [(0, 12), (1, 16), (2, 0), (3, 0), (4, 0), (5, 0)]) (lt2 := [(0, 12), (1, 16), (2, 0), (3, 0), (4, 0)]) (og_sseq (og_istore (i := 5) (lt' := [(0, 12), (1, 16), (2, 0), (3, 0), (4, 0), (5, 0)]) (og_iconst (by decide) d_Rows_firstBest_35) (by decide) (by decide) d_Rows_firstBest_36) (og_swhile (T := 47) (F := 81) (cp0 := 75) (og_ccn og_n_lt (og_ige (tgt := 81) (og_iload (i := 5) (j := 5) (by rfl) d_Rows_firstBest_38) (og_f_Yard_people_N (og_aload_n (i := 1) (t := 14) (j := 1) (by rfl) (by rfl) d_Rows_firstBest_40) og_w49 d_Rows_firstBest_41) d_Rows_firstBest_44 (by decide))) (og_sif (T := 72) (F := 75) (og_cand (og_cbeq (tgt := 75) (og_callVz (og_acons (og_aload_n (i := 0) (t := 10) (j := 0) (by rfl) (by rfl) d_Rows_firstBest_47) (og_acons (og_aload_n (i := 1) (t := 14) (j := 1) (by rfl) (by rfl) d_Rows_firstBest_48) (og_acons (og_iload_n (i := 2) (j := 2) (by rfl) (by rfl) d_Rows_firstBest_49) (og_acons (og_iload_n (i := 3) (j := 3) (by rfl) (by rfl) d_Rows_firstBest_50) (og_acons (og_iload (i := 5) (j := 5) (by rfl) d_Rows_firstBest_51) (og_anil)))))) (by decide) ok_Rows_isFree (v_Rows_isFree (by decide)) og_w897 d_Rows_firstBest_53) d_Rows_firstBest_56 (by decide)) (og_ccn og_n_eq (og_ine (tgt := 75) (og_callVi (og_acons (og_aload_n (i := 0) (t := 10) (j := 0) (by rfl) (by rfl) d_Rows_firstBest_59) (og_acons (og_iload_n (i := 2) (j := 2) (by rfl) (by rfl) d_Rows_firstBest_60) (og_acons (og_iload_n (i := 3) (j := 3) (by rfl) (by rfl) d_Rows_firstBest_61) (og_acons (og_iload (i := 5) (j := 5) (by rfl) d_Rows_firstBest_62) (og_anil))))) (by decide) ok_Rows_with (v_Rows_with (by decide)) og_w904 d_Rows_firstBest_64) (og_iload (i := 4) (j := 4) (by rfl) d_Rows_firstBest_67) d_Rows_firstBest_69 (by decide)))) (og_sreti (og_iload (i := 5) (j := 5) (by rfl) d_Rows_firstBest_72) d_Rows_firstBest_74) (og_sskip)) (og_gS (b' := 38) (og_iinc (j := 5) (lt' := [(0, 12), (1, 16), (2, 0), (3, 0), (4, 0), (5, 0)]) (by rfl) (by decide) (by decide) d_Rows_firstBest_75) d_Rows_firstBest_78 (by decide)))) (by decide)) (og_sreti (og_iconst (by decide) d_Rows_firstBest_81) d_Rows_firstBest_82)))) (fun h => by cases h)
abbrev og_c_Rows_choose : ByteArray := prog_8_method_2_code
abbrev og_y_Rows_choose : MethodName := ⟨"OpenGraves$Rows", "choose", "(LOpenGraves$Yard;)V"⟩
theorem v_Rows_choose {own : String} {idx dep : Nat} (h : 5 + 1 ≤ dep) : og_sV own idx og_y_Rows_choose og_c_Rows_choose 5 2 5 dep 8 1 := ⟨⟨7, og_sl_Rows, og_T_Rows, 3, rfl, by decide, rfl⟩, og_w890, og_w891, og_w15, og_w892, ⟨by decide +kernel, by decide +kernel, by decide +kernel⟩, h, by decide⟩
theorem d_Rows_choose_0 : decode og_c_Rows_choose 0 = .ok (.iconst 0, 1) := by decide +kernel
theorem d_Rows_choose_1 : decode og_c_Rows_choose 1 = .ok (.istore_n 2, 1) := by decide +kernel
theorem d_Rows_choose_2 : decode og_c_Rows_choose 2 = .ok (.iload_n 2, 1) := by decide +kernel
theorem d_Rows_choose_3 : decode og_c_Rows_choose 3 = .ok (.sipush 256, 3) := by decide +kernel
theorem d_Rows_choose_6 : decode og_c_Rows_choose 6 = .ok (.if_icmp .ge 25, 3) := by decide +kernel
theorem d_Rows_choose_9 : decode og_c_Rows_choose 9 = .ok (.aload_n 0, 1) := by decide +kernel
theorem d_Rows_choose_10 : decode og_c_Rows_choose 10 = .ok (.getfield 18, 3) := by decide +kernel
theorem d_Rows_choose_13 : decode og_c_Rows_choose 13 = .ok (.sipush 256, 3) := by decide +kernel
theorem d_Rows_choose_16 : decode og_c_Rows_choose 16 = .ok (.aload_n 1, 1) := by decide +kernel
theorem d_Rows_choose_17 : decode og_c_Rows_choose 17 = .ok (.getfield 21, 3) := by decide +kernel
theorem d_Rows_choose_20 : decode og_c_Rows_choose 20 = .ok (.imul, 1) := by decide +kernel
theorem d_Rows_choose_21 : decode og_c_Rows_choose 21 = .ok (.iload_n 2, 1) := by decide +kernel
theorem d_Rows_choose_22 : decode og_c_Rows_choose 22 = .ok (.iadd, 1) := by decide +kernel
theorem d_Rows_choose_23 : decode og_c_Rows_choose 23 = .ok (.iconst 0, 1) := by decide +kernel
theorem d_Rows_choose_24 : decode og_c_Rows_choose 24 = .ok (.iastore, 1) := by decide +kernel
theorem d_Rows_choose_25 : decode og_c_Rows_choose 25 = .ok (.iinc 2 1, 3) := by decide +kernel
theorem d_Rows_choose_28 : decode og_c_Rows_choose 28 = .ok (.goto (-26), 3) := by decide +kernel
theorem d_Rows_choose_31 : decode og_c_Rows_choose 31 = .ok (.iconst 1, 1) := by decide +kernel
theorem d_Rows_choose_32 : decode og_c_Rows_choose 32 = .ok (.aload_n 1, 1) := by decide +kernel
theorem d_Rows_choose_33 : decode og_c_Rows_choose 33 = .ok (.getfield 27, 3) := by decide +kernel
theorem d_Rows_choose_36 : decode og_c_Rows_choose 36 = .ok (.ishl, 1) := by decide +kernel
theorem d_Rows_choose_37 : decode og_c_Rows_choose 37 = .ok (.istore_n 2, 1) := by decide +kernel
theorem d_Rows_choose_38 : decode og_c_Rows_choose 38 = .ok (.aload_n 1, 1) := by decide +kernel
theorem d_Rows_choose_39 : decode og_c_Rows_choose 39 = .ok (.getfield 21, 3) := by decide +kernel
theorem d_Rows_choose_42 : decode og_c_Rows_choose 42 = .ok (.iconst 1, 1) := by decide +kernel
theorem d_Rows_choose_43 : decode og_c_Rows_choose 43 = .ok (.isub, 1) := by decide +kernel
theorem d_Rows_choose_44 : decode og_c_Rows_choose 44 = .ok (.istore_n 3, 1) := by decide +kernel
theorem d_Rows_choose_45 : decode og_c_Rows_choose 45 = .ok (.iload_n 3, 1) := by decide +kernel
theorem d_Rows_choose_46 : decode og_c_Rows_choose 46 = .ok (.ifCond .lt 45, 3) := by decide +kernel
theorem d_Rows_choose_49 : decode og_c_Rows_choose 49 = .ok (.iconst 0, 1) := by decide +kernel
theorem d_Rows_choose_50 : decode og_c_Rows_choose 50 = .ok (.istore 4, 2) := by decide +kernel
theorem d_Rows_choose_52 : decode og_c_Rows_choose 52 = .ok (.iload 4, 2) := by decide +kernel
theorem d_Rows_choose_54 : decode og_c_Rows_choose 54 = .ok (.iload_n 2, 1) := by decide +kernel
theorem d_Rows_choose_55 : decode og_c_Rows_choose 55 = .ok (.if_icmp .ge 30, 3) := by decide +kernel
theorem d_Rows_choose_58 : decode og_c_Rows_choose 58 = .ok (.aload_n 0, 1) := by decide +kernel
theorem d_Rows_choose_59 : decode og_c_Rows_choose 59 = .ok (.getfield 18, 3) := by decide +kernel
theorem d_Rows_choose_62 : decode og_c_Rows_choose 62 = .ok (.sipush 256, 3) := by decide +kernel
theorem d_Rows_choose_65 : decode og_c_Rows_choose 65 = .ok (.iload_n 3, 1) := by decide +kernel
theorem d_Rows_choose_66 : decode og_c_Rows_choose 66 = .ok (.imul, 1) := by decide +kernel
theorem d_Rows_choose_67 : decode og_c_Rows_choose 67 = .ok (.iload 4, 2) := by decide +kernel
theorem d_Rows_choose_69 : decode og_c_Rows_choose 69 = .ok (.iadd, 1) := by decide +kernel
theorem d_Rows_choose_70 : decode og_c_Rows_choose 70 = .ok (.aload_n 0, 1) := by decide +kernel
theorem d_Rows_choose_71 : decode og_c_Rows_choose 71 = .ok (.aload_n 1, 1) := by decide +kernel
theorem d_Rows_choose_72 : decode og_c_Rows_choose 72 = .ok (.iload_n 3, 1) := by decide +kernel
theorem d_Rows_choose_73 : decode og_c_Rows_choose 73 = .ok (.iload 4, 2) := by decide +kernel
theorem d_Rows_choose_75 : decode og_c_Rows_choose 75 = .ok (.invokevirtual 30, 3) := by decide +kernel
theorem d_Rows_choose_78 : decode og_c_Rows_choose 78 = .ok (.iastore, 1) := by decide +kernel
theorem d_Rows_choose_79 : decode og_c_Rows_choose 79 = .ok (.iinc 4 1, 3) := by decide +kernel
theorem d_Rows_choose_82 : decode og_c_Rows_choose 82 = .ok (.goto (-30), 3) := by decide +kernel
theorem d_Rows_choose_85 : decode og_c_Rows_choose 85 = .ok (.iinc 3 (-1), 3) := by decide +kernel
theorem d_Rows_choose_88 : decode og_c_Rows_choose 88 = .ok (.goto (-43), 3) := by decide +kernel
theorem d_Rows_choose_91 : decode og_c_Rows_choose 91 = .ok (.iconst 0, 1) := by decide +kernel
theorem d_Rows_choose_92 : decode og_c_Rows_choose 92 = .ok (.istore_n 3, 1) := by decide +kernel
theorem d_Rows_choose_93 : decode og_c_Rows_choose 93 = .ok (.iconst 0, 1) := by decide +kernel
theorem d_Rows_choose_94 : decode og_c_Rows_choose 94 = .ok (.istore 4, 2) := by decide +kernel
theorem d_Rows_choose_96 : decode og_c_Rows_choose 96 = .ok (.iload 4, 2) := by decide +kernel
theorem d_Rows_choose_98 : decode og_c_Rows_choose 98 = .ok (.aload_n 1, 1) := by decide +kernel
theorem d_Rows_choose_99 : decode og_c_Rows_choose 99 = .ok (.getfield 21, 3) := by decide +kernel
theorem d_Rows_choose_102 : decode og_c_Rows_choose 102 = .ok (.if_icmp .ge 47, 3) := by decide +kernel
theorem d_Rows_choose_105 : decode og_c_Rows_choose 105 = .ok (.aload_n 0, 1) := by decide +kernel
theorem d_Rows_choose_106 : decode og_c_Rows_choose 106 = .ok (.getfield 15, 3) := by decide +kernel
theorem d_Rows_choose_109 : decode og_c_Rows_choose 109 = .ok (.iload 4, 2) := by decide +kernel
theorem d_Rows_choose_111 : decode og_c_Rows_choose 111 = .ok (.aload_n 0, 1) := by decide +kernel
theorem d_Rows_choose_112 : decode og_c_Rows_choose 112 = .ok (.aload_n 1, 1) := by decide +kernel
theorem d_Rows_choose_113 : decode og_c_Rows_choose 113 = .ok (.iload 4, 2) := by decide +kernel
theorem d_Rows_choose_115 : decode og_c_Rows_choose 115 = .ok (.iload_n 3, 1) := by decide +kernel
theorem d_Rows_choose_116 : decode og_c_Rows_choose 116 = .ok (.invokevirtual 34, 3) := by decide +kernel
theorem d_Rows_choose_119 : decode og_c_Rows_choose 119 = .ok (.iastore, 1) := by decide +kernel
theorem d_Rows_choose_120 : decode og_c_Rows_choose 120 = .ok (.aload_n 0, 1) := by decide +kernel
theorem d_Rows_choose_121 : decode og_c_Rows_choose 121 = .ok (.getfield 15, 3) := by decide +kernel
theorem d_Rows_choose_124 : decode og_c_Rows_choose 124 = .ok (.iload 4, 2) := by decide +kernel
theorem d_Rows_choose_126 : decode og_c_Rows_choose 126 = .ok (.iaload, 1) := by decide +kernel
theorem d_Rows_choose_127 : decode og_c_Rows_choose 127 = .ok (.iconst (-1), 1) := by decide +kernel
theorem d_Rows_choose_128 : decode og_c_Rows_choose 128 = .ok (.if_icmp .eq 15, 3) := by decide +kernel
theorem d_Rows_choose_131 : decode og_c_Rows_choose 131 = .ok (.iload_n 3, 1) := by decide +kernel
theorem d_Rows_choose_132 : decode og_c_Rows_choose 132 = .ok (.iconst 1, 1) := by decide +kernel
theorem d_Rows_choose_133 : decode og_c_Rows_choose 133 = .ok (.aload_n 0, 1) := by decide +kernel
theorem d_Rows_choose_134 : decode og_c_Rows_choose 134 = .ok (.getfield 15, 3) := by decide +kernel
theorem d_Rows_choose_137 : decode og_c_Rows_choose 137 = .ok (.iload 4, 2) := by decide +kernel
theorem d_Rows_choose_139 : decode og_c_Rows_choose 139 = .ok (.iaload, 1) := by decide +kernel
theorem d_Rows_choose_140 : decode og_c_Rows_choose 140 = .ok (.ishl, 1) := by decide +kernel
theorem d_Rows_choose_141 : decode og_c_Rows_choose 141 = .ok (.ior, 1) := by decide +kernel
theorem d_Rows_choose_142 : decode og_c_Rows_choose 142 = .ok (.istore_n 3, 1) := by decide +kernel
theorem d_Rows_choose_143 : decode og_c_Rows_choose 143 = .ok (.iinc 4 1, 3) := by decide +kernel
theorem d_Rows_choose_146 : decode og_c_Rows_choose 146 = .ok (.goto (-50), 3) := by decide +kernel
theorem d_Rows_choose_149 : decode og_c_Rows_choose 149 = .ok (.return_, 1) := by decide +kernel
def m_Rows_choose : og_Dn := og_den [12, 16] 5 2 (og_cut (og_seq (og_set 2 (og_k 0)) (og_while (og_cc og_rlt (og_loc 2) (og_k 256)) (og_ast 1792 (og_fix (fun _ => 19) (og_loc 0)) (og_add (og_mul (og_k 256) (og_get 0 (og_loc 1))) (og_loc 2)) (og_k 0)) (og_inc 2 1))) (og_seq (og_set 2 (og_bop og_oshl (og_k 1) (og_get 1 (og_loc 1)))) (og_cut (og_seq (og_set 3 (og_sub (og_get 0 (og_loc 1)) (og_k 1))) (og_while (og_cc og_rge (og_loc 3) (og_k 0)) (og_seq (og_set 4 (og_k 0)) (og_while (og_cc og_rlt (og_loc 4) (og_loc 2)) (og_ast 1792 (og_fix (fun _ => 19) (og_loc 0)) (og_add (og_mul (og_k 256) (og_loc 3)) (og_loc 4)) (og_call m_Rows_bestFrom [og_loc 0, og_loc 1, og_loc 3, og_loc 4])) (og_inc 4 1))) (og_inc 3 (-1)))) (og_seq (og_set 3 (og_k 0)) (og_seq (og_set 4 (og_k 0)) (og_while (og_cc og_rlt (og_loc 4) (og_get 0 (og_loc 1))) (og_seq (og_ast 6 (og_fix (fun _ => 18) (og_loc 0)) (og_loc 4) (og_call m_Rows_firstBest [og_loc 0, og_loc 1, og_loc 4, og_loc 3])) (og_if (og_cc og_rne (og_ald 6 (og_fix (fun _ => 18) (og_loc 0)) (og_loc 4)) (og_k (-1))) (og_set 3 (og_bop og_oor (og_loc 3) (og_bop og_oshl (og_k 1) (og_ald 6 (og_fix (fun _ => 18) (og_loc 0)) (og_loc 4))))) (og_skip))) (og_inc 4 1)))))))
set_option maxRecDepth 20000 in
theorem ok_Rows_choose : og_MOK og_y_Rows_choose og_c_Rows_choose 5 2 5 [12, 16] m_Rows_choose := og_method (b := 149) (lt' := [(0, 12), (1, 16)]) (by decide +kernel) (by decide) (by decide) (og_sdrop (lt' := [(0, 12), (1, 16), (2, 0), (3, 0)]) (lt2 := [(0, 12), (1, 16)]) (og_scut (og_sdrop (lt' := [(0, 12), (1, 16), (2, 0)]) (lt2 := [(0, 12), (1, 16)]) (og_sseq (og_istore_n (i := 2) (lt' := [(0, 12), (1, 16), (2, 0)]) (og_iconst (by decide) d_Rows_choose_0) (by rfl) (by decide) (by decide) d_Rows_choose_1) (og_swhile (T := 9) (F := 31) (cp0 := 25) (og_ccn og_n_lt (og_ige (tgt := 31) (og_iload_n (i := 2) (j := 2) (by rfl) (by rfl) d_Rows_choose_2) (og_sipush (by decide) d_Rows_choose_3) d_Rows_choose_6 (by decide))) (og_iastore (N := 1792) (og_f_Rows_best (og_aload_n (i := 0) (t := 10) (j := 0) (by rfl) (by rfl) d_Rows_choose_9) og_w359 d_Rows_choose_10) (by rfl) (og_iadd (og_imul (og_sipush (by decide) d_Rows_choose_13) (og_f_Yard_graves_N (og_aload_n (i := 1) (t := 14) (j := 1) (by rfl) (by rfl) d_Rows_choose_16) og_w42 d_Rows_choose_17) d_Rows_choose_20) (og_iload_n (i := 2) (j := 2) (by rfl) (by rfl) d_Rows_choose_21) d_Rows_choose_22) (og_iconst (by decide) d_Rows_choose_23) d_Rows_choose_24) (og_gS (b' := 2) (og_iinc (j := 2) (lt' := [(0, 12), (1, 16), (2, 0)]) (by rfl) (by decide) (by decide) d_Rows_choose_25) d_Rows_choose_28 (by decide)))) (by decide)) (og_sseq (og_istore_n (i := 2) (lt' := [(0, 12), (1, 16), (2, 0)]) (og_ishl (og_iconst (by decide) d_Rows_choose_31) (og_f_Yard_people_N (og_aload_n (i := 1) (t := 14) (j := 1) (by rfl) (by rfl) d_Rows_choose_32) og_w49 d_Rows_choose_33) d_Rows_choose_36) (by rfl) (by decide) (by decide) d_Rows_choose_37) (og_scut (og_sdrop (lt' := [(0, 12), (1, 16), (2, 0), (3, 0)]) (lt2 := [(0, 12), (1, 16), (2, 0)]) (og_sseq (og_istore_n (i := 3) (lt' := [(0, 12), (1, 16), (2, 0), (3, 0)]) (og_isub (og_f_Yard_graves_N (og_aload_n (i := 1) (t := 14) (j := 1) (by rfl) (by rfl) d_Rows_choose_38) og_w42 d_Rows_choose_39) (og_iconst (by decide) d_Rows_choose_42) d_Rows_choose_43) (by rfl) (by decide) (by decide) d_Rows_choose_44) (og_swhile (T := 49) (F := 91) (cp0 := 85) (og_ccn og_n_ge (og_zlt (tgt := 91) (og_iload_n (i := 3) (j := 3) (by rfl) (by rfl) d_Rows_choose_45) d_Rows_choose_46 (by decide))) (og_sdrop (lt' := [(0, 12), (1, 16), (2, 0), (3, 0), (4, 0)]) (lt2 := [(0, 12), (1, 16), (2, 0), (3, 0)]) (og_sseq (og_istore (i := 4) (lt' := [(0, 12), (1, 16), (2, 0), (3, 0), (4, 0)]) (og_iconst (by decide) d_Rows_choose_49) (by decide) (by decide) d_Rows_choose_50) (og_swhile (T := 58) (F := 85) (cp0 := 79) (og_ccn og_n_lt (og_ige (tgt := 85) (og_iload (i := 4) (j := 4) (by rfl) d_Rows_choose_52) (og_iload_n (i := 2) (j := 2) (by rfl) (by rfl) d_Rows_choose_54) d_Rows_choose_55 (by decide))) (og_iastore (N := 1792) (og_f_Rows_best (og_aload_n (i := 0) (t := 10) (j := 0) (by rfl) (by rfl) d_Rows_choose_58) og_w359 d_Rows_choose_59) (by rfl) (og_iadd (og_imul (og_sipush (by decide) d_Rows_choose_62) (og_iload_n (i := 3) (j := 3) (by rfl) (by rfl) d_Rows_choose_65) d_Rows_choose_66) (og_iload (i := 4) (j := 4) (by rfl) d_Rows_choose_67) d_Rows_choose_69) (og_callVi (og_acons (og_aload_n (i := 0) (t := 10) (j := 0) (by rfl) (by rfl) d_Rows_choose_70) (og_acons (og_aload_n (i := 1) (t := 14) (j := 1) (by rfl) (by rfl) d_Rows_choose_71) (og_acons (og_iload_n (i := 3) (j := 3) (by rfl) (by rfl) d_Rows_choose_72) (og_acons (og_iload (i := 4) (j := 4) (by rfl) d_Rows_choose_73) (og_anil))))) (by decide) ok_Rows_bestFrom (v_Rows_bestFrom (by decide)) og_w893 d_Rows_choose_75) d_Rows_choose_78) (og_gS (b' := 52) (og_iinc (j := 4) (lt' := [(0, 12), (1, 16), (2, 0), (3, 0), (4, 0)]) (by rfl) (by decide) (by decide) d_Rows_choose_79) d_Rows_choose_82 (by decide)))) (by decide)) (og_gS (b' := 45) (og_iinc (j := 3) (lt' := [(0, 12), (1, 16), (2, 0), (3, 0)]) (by rfl) (by decide) (by decide) d_Rows_choose_85) d_Rows_choose_88 (by decide)))) (by decide)) (og_sseq (og_istore_n (i := 3) (lt' := [(0, 12), (1, 16), (2, 0), (3, 0)]) (og_iconst (by decide) d_Rows_choose_91) (by rfl) (by decide) (by decide) d_Rows_choose_92) (og_sdrop (lt' := [(0, 12), (1, 16), (2, 0), (3, 0), (4, 0)]) (lt2 := [(0, 12), (1, 16), (2, 0), (3, 0)]) (og_sseq (og_istore (i := 4) (lt' := [(0, 12), (1, 16), (2, 0), (3, 0), (4, 0)]) (og_iconst (by decide) d_Rows_choose_93) (by decide) (by decide) d_Rows_choose_94) (og_swhile (T := 105) (F := 149) (cp0 := 143) (og_ccn og_n_lt (og_ige (tgt := 149) (og_iload (i := 4) (j := 4) (by rfl) d_Rows_choose_96) (og_f_Yard_graves_N (og_aload_n (i := 1) (t := 14) (j := 1) (by rfl) (by rfl) d_Rows_choose_98) og_w42 d_Rows_choose_99) d_Rows_choose_102 (by decide))) (og_sseq (og_iastore (N := 6) (og_f_Rows_chosen (og_aload_n (i := 0) (t := 10) (j := 0) (by rfl) (by rfl) d_Rows_choose_105) og_w357 d_Rows_choose_106) (by rfl) (og_iload (i := 4) (j := 4) (by rfl) d_Rows_choose_109) (og_callVi (og_acons (og_aload_n (i := 0) (t := 10) (j := 0) (by rfl) (by rfl) d_Rows_choose_111) (og_acons (og_aload_n (i := 1) (t := 14) (j := 1) (by rfl) (by rfl) d_Rows_choose_112) (og_acons (og_iload (i := 4) (j := 4) (by rfl) d_Rows_choose_113) (og_acons (og_iload_n (i := 3) (j := 3) (by rfl) (by rfl) d_Rows_choose_115) (og_anil))))) (by decide) ok_Rows_firstBest (v_Rows_firstBest (by decide)) og_w909 d_Rows_choose_116) d_Rows_choose_119) (og_sif (T := 131) (F := 143) (og_ccn og_n_ne (og_ieq (tgt := 143) (og_iald (N := 6) (og_f_Rows_chosen (og_aload_n (i := 0) (t := 10) (j := 0) (by rfl) (by rfl) d_Rows_choose_120) og_w357 d_Rows_choose_121) (by rfl) (og_iload (i := 4) (j := 4) (by rfl) d_Rows_choose_124) d_Rows_choose_126) (og_iconst (by decide) d_Rows_choose_127) d_Rows_choose_128 (by decide))) (og_istore_n (i := 3) (lt' := [(0, 12), (1, 16), (2, 0), (3, 0), (4, 0)]) (og_ior (og_iload_n (i := 3) (j := 3) (by rfl) (by rfl) d_Rows_choose_131) (og_ishl (og_iconst (by decide) d_Rows_choose_132) (og_iald (N := 6) (og_f_Rows_chosen (og_aload_n (i := 0) (t := 10) (j := 0) (by rfl) (by rfl) d_Rows_choose_133) og_w357 d_Rows_choose_134) (by rfl) (og_iload (i := 4) (j := 4) (by rfl) d_Rows_choose_137) d_Rows_choose_139) d_Rows_choose_140) d_Rows_choose_141) (by rfl) (by decide) (by decide) d_Rows_choose_142) (og_sskip))) (og_gS (b' := 96) (og_iinc (j := 4) (lt' := [(0, 12), (1, 16), (2, 0), (3, 0), (4, 0)]) (by rfl) (by decide) (by decide) d_Rows_choose_143) d_Rows_choose_146 (by decide)))) (by decide)))))) (by decide)) (fun _ => d_Rows_choose_149)
abbrev og_c_Rows_countFilled : ByteArray := prog_8_method_7_code
abbrev og_y_Rows_countFilled : MethodName := ⟨"OpenGraves$Rows", "countFilled", "(LOpenGraves$Yard;)I"⟩
theorem v_Rows_countFilled {own : String} {idx dep : Nat} (h : 1 + 1 ≤ dep) : og_sV own idx og_y_Rows_countFilled og_c_Rows_countFilled 4 0 1 dep 8 1 := ⟨⟨7, og_sl_Rows, og_T_Rows, 3, rfl, by decide, rfl⟩, og_w914, og_w915, og_w15, og_w916, ⟨by decide +kernel, by decide +kernel, by decide +kernel⟩, h, by decide⟩
theorem d_Rows_countFilled_0 : decode og_c_Rows_countFilled 0 = .ok (.iconst 0, 1) := by decide +kernel
theorem d_Rows_countFilled_1 : decode og_c_Rows_countFilled 1 = .ok (.istore_n 2, 1) := by decide +kernel
theorem d_Rows_countFilled_2 : decode og_c_Rows_countFilled 2 = .ok (.iconst 0, 1) := by decide +kernel
theorem d_Rows_countFilled_3 : decode og_c_Rows_countFilled 3 = .ok (.istore_n 3, 1) := by decide +kernel
theorem d_Rows_countFilled_4 : decode og_c_Rows_countFilled 4 = .ok (.iload_n 3, 1) := by decide +kernel
theorem d_Rows_countFilled_5 : decode og_c_Rows_countFilled 5 = .ok (.aload_n 1, 1) := by decide +kernel
theorem d_Rows_countFilled_6 : decode og_c_Rows_countFilled 6 = .ok (.getfield 21, 3) := by decide +kernel
theorem d_Rows_countFilled_9 : decode og_c_Rows_countFilled 9 = .ok (.if_icmp .ge 22, 3) := by decide +kernel
theorem d_Rows_countFilled_12 : decode og_c_Rows_countFilled 12 = .ok (.aload_n 0, 1) := by decide +kernel
theorem d_Rows_countFilled_13 : decode og_c_Rows_countFilled 13 = .ok (.getfield 15, 3) := by decide +kernel
theorem d_Rows_countFilled_16 : decode og_c_Rows_countFilled 16 = .ok (.iload_n 3, 1) := by decide +kernel
theorem d_Rows_countFilled_17 : decode og_c_Rows_countFilled 17 = .ok (.iaload, 1) := by decide +kernel
theorem d_Rows_countFilled_18 : decode og_c_Rows_countFilled 18 = .ok (.iconst (-1), 1) := by decide +kernel
theorem d_Rows_countFilled_19 : decode og_c_Rows_countFilled 19 = .ok (.if_icmp .eq 6, 3) := by decide +kernel
theorem d_Rows_countFilled_22 : decode og_c_Rows_countFilled 22 = .ok (.iinc 2 1, 3) := by decide +kernel
theorem d_Rows_countFilled_25 : decode og_c_Rows_countFilled 25 = .ok (.iinc 3 1, 3) := by decide +kernel
theorem d_Rows_countFilled_28 : decode og_c_Rows_countFilled 28 = .ok (.goto (-24), 3) := by decide +kernel
theorem d_Rows_countFilled_31 : decode og_c_Rows_countFilled 31 = .ok (.iload_n 2, 1) := by decide +kernel
theorem d_Rows_countFilled_32 : decode og_c_Rows_countFilled 32 = .ok (.ireturn, 1) := by decide +kernel
def m_Rows_countFilled : og_Dn := og_den [12, 16] 4 0 (og_seq (og_set 2 (og_k 0)) (og_cut (og_seq (og_set 3 (og_k 0)) (og_while (og_cc og_rlt (og_loc 3) (og_get 0 (og_loc 1))) (og_if (og_cc og_rne (og_ald 6 (og_fix (fun _ => 18) (og_loc 0)) (og_loc 3)) (og_k (-1))) (og_inc 2 1) (og_skip)) (og_inc 3 1))) (og_ret (og_loc 2))))
set_option maxRecDepth 20000 in
theorem ok_Rows_countFilled : og_MOK og_y_Rows_countFilled og_c_Rows_countFilled 4 0 1 [12, 16] m_Rows_countFilled := og_method (b := 0) (lt' := []) (by decide +kernel) (by decide) (by decide) (og_sseq (og_istore_n (i := 2) (lt' := [(0, 12), (1, 16), (2, 0)]) (og_iconst (by decide) d_Rows_countFilled_0) (by rfl) (by decide) (by decide) d_Rows_countFilled_1) (og_scut (og_sdrop (lt' := [(0, 12), (1, 16), (2, 0), (3, 0)]) (lt2 := [(0, 12), (1, 16), (2, 0)]) (og_sseq (og_istore_n (i := 3) (lt' := [(0, 12), (1, 16), (2, 0), (3, 0)]) (og_iconst (by decide) d_Rows_countFilled_2) (by rfl) (by decide) (by decide) d_Rows_countFilled_3) (og_swhile (T := 12) (F := 31) (cp0 := 25) (og_ccn og_n_lt (og_ige (tgt := 31) (og_iload_n (i := 3) (j := 3) (by rfl) (by rfl) d_Rows_countFilled_4) (og_f_Yard_graves_N (og_aload_n (i := 1) (t := 14) (j := 1) (by rfl) (by rfl) d_Rows_countFilled_5) og_w42 d_Rows_countFilled_6) d_Rows_countFilled_9 (by decide))) (og_sif (T := 22) (F := 25) (og_ccn og_n_ne (og_ieq (tgt := 25) (og_iald (N := 6) (og_f_Rows_chosen (og_aload_n (i := 0) (t := 10) (j := 0) (by rfl) (by rfl) d_Rows_countFilled_12) og_w357 d_Rows_countFilled_13) (by rfl) (og_iload_n (i := 3) (j := 3) (by rfl) (by rfl) d_Rows_countFilled_16) d_Rows_countFilled_17) (og_iconst (by decide) d_Rows_countFilled_18) d_Rows_countFilled_19 (by decide))) (og_iinc (j := 2) (lt' := [(0, 12), (1, 16), (2, 0), (3, 0)]) (by rfl) (by decide) (by decide) d_Rows_countFilled_22) (og_sskip)) (og_gS (b' := 4) (og_iinc (j := 3) (lt' := [(0, 12), (1, 16), (2, 0), (3, 0)]) (by rfl) (by decide) (by decide) d_Rows_countFilled_25) d_Rows_countFilled_28 (by decide)))) (by decide)) (og_sreti (og_iload_n (i := 2) (j := 2) (by rfl) (by rfl) d_Rows_countFilled_31) d_Rows_countFilled_32))) (fun h => by cases h)
abbrev og_c_Rows_wholeHarm : ByteArray := prog_8_method_8_code
abbrev og_y_Rows_wholeHarm : MethodName := ⟨"OpenGraves$Rows", "wholeHarm", "(LOpenGraves$Yard;)I"⟩
theorem v_Rows_wholeHarm {own : String} {idx dep : Nat} (h : 1 + 1 ≤ dep) : og_sV own idx og_y_Rows_wholeHarm og_c_Rows_wholeHarm 4 0 1 dep 8 1 := ⟨⟨7, og_sl_Rows, og_T_Rows, 3, rfl, by decide, rfl⟩, og_w918, og_w919, og_w15, og_w920, ⟨by decide +kernel, by decide +kernel, by decide +kernel⟩, h, by decide⟩
theorem d_Rows_wholeHarm_0 : decode og_c_Rows_wholeHarm 0 = .ok (.iconst 0, 1) := by decide +kernel
theorem d_Rows_wholeHarm_1 : decode og_c_Rows_wholeHarm 1 = .ok (.istore_n 2, 1) := by decide +kernel
theorem d_Rows_wholeHarm_2 : decode og_c_Rows_wholeHarm 2 = .ok (.iconst 0, 1) := by decide +kernel
theorem d_Rows_wholeHarm_3 : decode og_c_Rows_wholeHarm 3 = .ok (.istore_n 3, 1) := by decide +kernel
theorem d_Rows_wholeHarm_4 : decode og_c_Rows_wholeHarm 4 = .ok (.iload_n 3, 1) := by decide +kernel
theorem d_Rows_wholeHarm_5 : decode og_c_Rows_wholeHarm 5 = .ok (.aload_n 1, 1) := by decide +kernel
theorem d_Rows_wholeHarm_6 : decode og_c_Rows_wholeHarm 6 = .ok (.getfield 21, 3) := by decide +kernel
theorem d_Rows_wholeHarm_9 : decode og_c_Rows_wholeHarm 9 = .ok (.if_icmp .ge 33, 3) := by decide +kernel
theorem d_Rows_wholeHarm_12 : decode og_c_Rows_wholeHarm 12 = .ok (.aload_n 0, 1) := by decide +kernel
theorem d_Rows_wholeHarm_13 : decode og_c_Rows_wholeHarm 13 = .ok (.getfield 15, 3) := by decide +kernel
theorem d_Rows_wholeHarm_16 : decode og_c_Rows_wholeHarm 16 = .ok (.iload_n 3, 1) := by decide +kernel
theorem d_Rows_wholeHarm_17 : decode og_c_Rows_wholeHarm 17 = .ok (.iaload, 1) := by decide +kernel
theorem d_Rows_wholeHarm_18 : decode og_c_Rows_wholeHarm 18 = .ok (.iconst (-1), 1) := by decide +kernel
theorem d_Rows_wholeHarm_19 : decode og_c_Rows_wholeHarm 19 = .ok (.if_icmp .eq 17, 3) := by decide +kernel
theorem d_Rows_wholeHarm_22 : decode og_c_Rows_wholeHarm 22 = .ok (.iload_n 2, 1) := by decide +kernel
theorem d_Rows_wholeHarm_23 : decode og_c_Rows_wholeHarm 23 = .ok (.aload_n 0, 1) := by decide +kernel
theorem d_Rows_wholeHarm_24 : decode og_c_Rows_wholeHarm 24 = .ok (.getfield 9, 3) := by decide +kernel
theorem d_Rows_wholeHarm_27 : decode og_c_Rows_wholeHarm 27 = .ok (.aload_n 0, 1) := by decide +kernel
theorem d_Rows_wholeHarm_28 : decode og_c_Rows_wholeHarm 28 = .ok (.getfield 15, 3) := by decide +kernel
theorem d_Rows_wholeHarm_31 : decode og_c_Rows_wholeHarm 31 = .ok (.iload_n 3, 1) := by decide +kernel
theorem d_Rows_wholeHarm_32 : decode og_c_Rows_wholeHarm 32 = .ok (.iaload, 1) := by decide +kernel
theorem d_Rows_wholeHarm_33 : decode og_c_Rows_wholeHarm 33 = .ok (.iaload, 1) := by decide +kernel
theorem d_Rows_wholeHarm_34 : decode og_c_Rows_wholeHarm 34 = .ok (.iadd, 1) := by decide +kernel
theorem d_Rows_wholeHarm_35 : decode og_c_Rows_wholeHarm 35 = .ok (.istore_n 2, 1) := by decide +kernel
theorem d_Rows_wholeHarm_36 : decode og_c_Rows_wholeHarm 36 = .ok (.iinc 3 1, 3) := by decide +kernel
theorem d_Rows_wholeHarm_39 : decode og_c_Rows_wholeHarm 39 = .ok (.goto (-35), 3) := by decide +kernel
theorem d_Rows_wholeHarm_42 : decode og_c_Rows_wholeHarm 42 = .ok (.iload_n 2, 1) := by decide +kernel
theorem d_Rows_wholeHarm_43 : decode og_c_Rows_wholeHarm 43 = .ok (.ireturn, 1) := by decide +kernel
def m_Rows_wholeHarm : og_Dn := og_den [12, 16] 4 0 (og_seq (og_set 2 (og_k 0)) (og_cut (og_seq (og_set 3 (og_k 0)) (og_while (og_cc og_rlt (og_loc 3) (og_get 0 (og_loc 1))) (og_if (og_cc og_rne (og_ald 6 (og_fix (fun _ => 18) (og_loc 0)) (og_loc 3)) (og_k (-1))) (og_set 2 (og_add (og_loc 2) (og_ald 8 (og_fix (fun _ => 17) (og_loc 0)) (og_ald 6 (og_fix (fun _ => 18) (og_loc 0)) (og_loc 3))))) (og_skip)) (og_inc 3 1))) (og_ret (og_loc 2))))
set_option maxRecDepth 20000 in
theorem ok_Rows_wholeHarm : og_MOK og_y_Rows_wholeHarm og_c_Rows_wholeHarm 4 0 1 [12, 16] m_Rows_wholeHarm := og_method (b := 0) (lt' := []) (by decide +kernel) (by decide) (by decide) (og_sseq (og_istore_n (i := 2) (lt' := [(0, 12), (1, 16), (2, 0)]) (og_iconst (by decide) d_Rows_wholeHarm_0) (by rfl) (by decide) (by decide) d_Rows_wholeHarm_1) (og_scut (og_sdrop (lt' := [(0, 12), (1, 16), (2, 0), (3, 0)]) (lt2 := [(0, 12), (1, 16), (2, 0)]) (og_sseq (og_istore_n (i := 3) (lt' := [(0, 12), (1, 16), (2, 0), (3, 0)]) (og_iconst (by decide) d_Rows_wholeHarm_2) (by rfl) (by decide) (by decide) d_Rows_wholeHarm_3) (og_swhile (T := 12) (F := 42) (cp0 := 36) (og_ccn og_n_lt (og_ige (tgt := 42) (og_iload_n (i := 3) (j := 3) (by rfl) (by rfl) d_Rows_wholeHarm_4) (og_f_Yard_graves_N (og_aload_n (i := 1) (t := 14) (j := 1) (by rfl) (by rfl) d_Rows_wholeHarm_5) og_w42 d_Rows_wholeHarm_6) d_Rows_wholeHarm_9 (by decide))) (og_sif (T := 22) (F := 36) (og_ccn og_n_ne (og_ieq (tgt := 36) (og_iald (N := 6) (og_f_Rows_chosen (og_aload_n (i := 0) (t := 10) (j := 0) (by rfl) (by rfl) d_Rows_wholeHarm_12) og_w357 d_Rows_wholeHarm_13) (by rfl) (og_iload_n (i := 3) (j := 3) (by rfl) (by rfl) d_Rows_wholeHarm_16) d_Rows_wholeHarm_17) (og_iconst (by decide) d_Rows_wholeHarm_18) d_Rows_wholeHarm_19 (by decide))) (og_istore_n (i := 2) (lt' := [(0, 12), (1, 16), (2, 0), (3, 0)]) (og_iadd (og_iload_n (i := 2) (j := 2) (by rfl) (by rfl) d_Rows_wholeHarm_22) (og_iald (N := 8) (og_f_Rows_harm (og_aload_n (i := 0) (t := 10) (j := 0) (by rfl) (by rfl) d_Rows_wholeHarm_23) og_w355 d_Rows_wholeHarm_24) (by rfl) (og_iald (N := 6) (og_f_Rows_chosen (og_aload_n (i := 0) (t := 10) (j := 0) (by rfl) (by rfl) d_Rows_wholeHarm_27) og_w357 d_Rows_wholeHarm_28) (by rfl) (og_iload_n (i := 3) (j := 3) (by rfl) (by rfl) d_Rows_wholeHarm_31) d_Rows_wholeHarm_32) d_Rows_wholeHarm_33) d_Rows_wholeHarm_34) (by rfl) (by decide) (by decide) d_Rows_wholeHarm_35) (og_sskip)) (og_gS (b' := 4) (og_iinc (j := 3) (lt' := [(0, 12), (1, 16), (2, 0), (3, 0)]) (by rfl) (by decide) (by decide) d_Rows_wholeHarm_36) d_Rows_wholeHarm_39 (by decide)))) (by decide)) (og_sreti (og_iload_n (i := 2) (j := 2) (by rfl) (by rfl) d_Rows_wholeHarm_42) d_Rows_wholeHarm_43))) (fun h => by cases h)
abbrev og_c_OG_row : ByteArray := prog_1_method_16_code
abbrev og_y_OG_row : MethodName := ⟨"OpenGraves", "row", "(I)I"⟩
theorem v_OG_row {own : String} {idx dep : Nat} (h : 6 + 1 ≤ dep) : og_sV own idx og_y_OG_row og_c_OG_row 3 0 6 dep 1 1 := ⟨⟨0, og_sl_OG, og_T_OG, 17, rfl, by decide, rfl⟩, og_w886, og_w887, og_w1, og_w888, ⟨by decide +kernel, by decide +kernel, by decide +kernel⟩, h, by decide⟩
theorem d_OG_row_0 : decode og_c_OG_row 0 = .ok (.iload_n 1, 1) := by decide +kernel
theorem d_OG_row_1 : decode og_c_OG_row 1 = .ok (.ifCond .lt 16, 3) := by decide +kernel
theorem d_OG_row_4 : decode og_c_OG_row 4 = .ok (.iload_n 1, 1) := by decide +kernel
theorem d_OG_row_5 : decode og_c_OG_row 5 = .ok (.iconst 2, 1) := by decide +kernel
theorem d_OG_row_6 : decode og_c_OG_row 6 = .ok (.aload_n 0, 1) := by decide +kernel
theorem d_OG_row_7 : decode og_c_OG_row 7 = .ok (.getfield 90, 3) := by decide +kernel
theorem d_OG_row_10 : decode og_c_OG_row 10 = .ok (.getfield 142, 3) := by decide +kernel
theorem d_OG_row_13 : decode og_c_OG_row 13 = .ok (.iadd, 1) := by decide +kernel
theorem d_OG_row_14 : decode og_c_OG_row 14 = .ok (.if_icmp .lt 5, 3) := by decide +kernel
theorem d_OG_row_17 : decode og_c_OG_row 17 = .ok (.iconst (-1), 1) := by decide +kernel
theorem d_OG_row_18 : decode og_c_OG_row 18 = .ok (.ireturn, 1) := by decide +kernel
theorem d_OG_row_19 : decode og_c_OG_row 19 = .ok (.iconst 0, 1) := by decide +kernel
theorem d_OG_row_20 : decode og_c_OG_row 20 = .ok (.istore_n 2, 1) := by decide +kernel
theorem d_OG_row_21 : decode og_c_OG_row 21 = .ok (.iload_n 2, 1) := by decide +kernel
theorem d_OG_row_22 : decode og_c_OG_row 22 = .ok (.aload_n 0, 1) := by decide +kernel
theorem d_OG_row_23 : decode og_c_OG_row 23 = .ok (.getfield 90, 3) := by decide +kernel
theorem d_OG_row_26 : decode og_c_OG_row 26 = .ok (.getfield 145, 3) := by decide +kernel
theorem d_OG_row_29 : decode og_c_OG_row 29 = .ok (.if_icmp .ge 23, 3) := by decide +kernel
theorem d_OG_row_32 : decode og_c_OG_row 32 = .ok (.aload_n 0, 1) := by decide +kernel
theorem d_OG_row_33 : decode og_c_OG_row 33 = .ok (.getfield 76, 3) := by decide +kernel
theorem d_OG_row_36 : decode og_c_OG_row 36 = .ok (.getfield 239, 3) := by decide +kernel
theorem d_OG_row_39 : decode og_c_OG_row 39 = .ok (.iload_n 2, 1) := by decide +kernel
theorem d_OG_row_40 : decode og_c_OG_row 40 = .ok (.aload_n 0, 1) := by decide +kernel
theorem d_OG_row_41 : decode og_c_OG_row 41 = .ok (.iload_n 2, 1) := by decide +kernel
theorem d_OG_row_42 : decode og_c_OG_row 42 = .ok (.invokevirtual 214, 3) := by decide +kernel
theorem d_OG_row_45 : decode og_c_OG_row 45 = .ok (.iastore, 1) := by decide +kernel
theorem d_OG_row_46 : decode og_c_OG_row 46 = .ok (.iinc 2 1, 3) := by decide +kernel
theorem d_OG_row_49 : decode og_c_OG_row 49 = .ok (.goto (-28), 3) := by decide +kernel
theorem d_OG_row_52 : decode og_c_OG_row 52 = .ok (.aload_n 0, 1) := by decide +kernel
theorem d_OG_row_53 : decode og_c_OG_row 53 = .ok (.getfield 76, 3) := by decide +kernel
theorem d_OG_row_56 : decode og_c_OG_row 56 = .ok (.aload_n 0, 1) := by decide +kernel
theorem d_OG_row_57 : decode og_c_OG_row 57 = .ok (.getfield 90, 3) := by decide +kernel
theorem d_OG_row_60 : decode og_c_OG_row 60 = .ok (.invokevirtual 242, 3) := by decide +kernel
theorem d_OG_row_63 : decode og_c_OG_row 63 = .ok (.iload_n 1, 1) := by decide +kernel
theorem d_OG_row_64 : decode og_c_OG_row 64 = .ok (.lookupswitch 52 #[(0, 28), (1, 40)], 28) := by decide +kernel
theorem d_OG_row_92 : decode og_c_OG_row 92 = .ok (.aload_n 0, 1) := by decide +kernel
theorem d_OG_row_93 : decode og_c_OG_row 93 = .ok (.getfield 76, 3) := by decide +kernel
theorem d_OG_row_96 : decode og_c_OG_row 96 = .ok (.aload_n 0, 1) := by decide +kernel
theorem d_OG_row_97 : decode og_c_OG_row 97 = .ok (.getfield 90, 3) := by decide +kernel
theorem d_OG_row_100 : decode og_c_OG_row 100 = .ok (.invokevirtual 245, 3) := by decide +kernel
theorem d_OG_row_103 : decode og_c_OG_row 103 = .ok (.ireturn, 1) := by decide +kernel
theorem d_OG_row_104 : decode og_c_OG_row 104 = .ok (.aload_n 0, 1) := by decide +kernel
theorem d_OG_row_105 : decode og_c_OG_row 105 = .ok (.getfield 76, 3) := by decide +kernel
theorem d_OG_row_108 : decode og_c_OG_row 108 = .ok (.aload_n 0, 1) := by decide +kernel
theorem d_OG_row_109 : decode og_c_OG_row 109 = .ok (.getfield 90, 3) := by decide +kernel
theorem d_OG_row_112 : decode og_c_OG_row 112 = .ok (.invokevirtual 248, 3) := by decide +kernel
theorem d_OG_row_115 : decode og_c_OG_row 115 = .ok (.ireturn, 1) := by decide +kernel
theorem d_OG_row_116 : decode og_c_OG_row 116 = .ok (.aload_n 0, 1) := by decide +kernel
theorem d_OG_row_117 : decode og_c_OG_row 117 = .ok (.getfield 76, 3) := by decide +kernel
theorem d_OG_row_120 : decode og_c_OG_row 120 = .ok (.getfield 251, 3) := by decide +kernel
theorem d_OG_row_123 : decode og_c_OG_row 123 = .ok (.iload_n 1, 1) := by decide +kernel
theorem d_OG_row_124 : decode og_c_OG_row 124 = .ok (.iconst 2, 1) := by decide +kernel
theorem d_OG_row_125 : decode og_c_OG_row 125 = .ok (.isub, 1) := by decide +kernel
theorem d_OG_row_126 : decode og_c_OG_row 126 = .ok (.iaload, 1) := by decide +kernel
theorem d_OG_row_127 : decode og_c_OG_row 127 = .ok (.ireturn, 1) := by decide +kernel
def m_OG_row : og_Dn := og_den [5, 0] 3 0 (og_seq (og_if (og_or (og_cc og_rlt (og_loc 1) (og_k 0)) (og_cc og_rge (og_loc 1) (og_add (og_k 2) (og_get 0 (og_fix (fun _ => 100) (og_loc 0)))))) (og_ret (og_k (-1))) (og_skip)) (og_cut (og_seq (og_set 2 (og_k 0)) (og_while (og_cc og_rlt (og_loc 2) (og_get 1 (og_fix (fun _ => 100) (og_loc 0)))) (og_ast 8 (og_fix (fun _ => 17) (og_fix (fun _ => 16) (og_loc 0))) (og_loc 2) (og_call m_OG_harmOf [og_loc 0, og_loc 2])) (og_inc 2 1))) (og_seq (og_exp (og_call m_Rows_choose [og_fix (fun _ => 16) (og_loc 0), og_fix (fun _ => 100) (og_loc 0)])) (og_sw (og_loc 1) (fun x => og_cs x [0] (og_ret (og_call m_Rows_countFilled [og_fix (fun _ => 16) (og_loc 0), og_fix (fun _ => 100) (og_loc 0)])) (og_cs x [1] (og_ret (og_call m_Rows_wholeHarm [og_fix (fun _ => 16) (og_loc 0), og_fix (fun _ => 100) (og_loc 0)])) (og_ret (og_ald 6 (og_fix (fun _ => 18) (og_fix (fun _ => 16) (og_loc 0))) (og_sub (og_loc 1) (og_k 2))))))))))
set_option maxRecDepth 20000 in
theorem ok_OG_row : og_MOK og_y_OG_row og_c_OG_row 3 0 6 [5, 0] m_OG_row := og_method (b := 0) (lt' := []) (by decide +kernel) (by decide) (by decide) (og_sseq (og_sif (T := 17) (F := 19) (og_cor (og_zlt (tgt := 17) (og_iload_n (i := 1) (j := 1) (by rfl) (by rfl) d_OG_row_0) d_OG_row_1 (by decide)) (og_ccn og_n_ge (og_ilt (tgt := 19) (og_iload_n (i := 1) (j := 1) (by rfl) (by rfl) d_OG_row_4) (og_iadd (og_iconst (by decide) d_OG_row_5) (og_f_Yard_graves_N (og_f_OG_now (og_aload_n (i := 0) (t := 3) (j := 0) (by rfl) (by rfl) d_OG_row_6) og_w397 d_OG_row_7) og_w47 d_OG_row_10) d_OG_row_13) d_OG_row_14 (by decide)))) (og_sreti (og_iconst (by decide) d_OG_row_17) d_OG_row_18) (og_sskip)) (og_scut (og_sdrop (lt' := [(0, 5), (1, 0), (2, 0)]) (lt2 := [(0, 5), (1, 0)]) (og_sseq (og_istore_n (i := 2) (lt' := [(0, 5), (1, 0), (2, 0)]) (og_iconst (by decide) d_OG_row_19) (by rfl) (by decide) (by decide) d_OG_row_20) (og_swhile (T := 32) (F := 52) (cp0 := 46) (og_ccn og_n_lt (og_ige (tgt := 52) (og_iload_n (i := 2) (j := 2) (by rfl) (by rfl) d_OG_row_21) (og_f_Yard_people_N (og_f_OG_now (og_aload_n (i := 0) (t := 3) (j := 0) (by rfl) (by rfl) d_OG_row_22) og_w397 d_OG_row_23) og_w52 d_OG_row_26) d_OG_row_29 (by decide))) (og_iastore (N := 8) (og_f_Rows_harm_N (og_f_OG_rows (og_aload_n (i := 0) (t := 3) (j := 0) (by rfl) (by rfl) d_OG_row_32) og_w395 d_OG_row_33) og_w356 d_OG_row_36) (by rfl) (og_iload_n (i := 2) (j := 2) (by rfl) (by rfl) d_OG_row_39) (og_callVi (og_acons (og_aload_n (i := 0) (t := 3) (j := 0) (by rfl) (by rfl) d_OG_row_40) (og_acons (og_iload_n (i := 2) (j := 2) (by rfl) (by rfl) d_OG_row_41) (og_anil))) (by decide) ok_OG_harmOf (v_OG_harmOf (by decide)) og_w780 d_OG_row_42) d_OG_row_45) (og_gS (b' := 21) (og_iinc (j := 2) (lt' := [(0, 5), (1, 0), (2, 0)]) (by rfl) (by decide) (by decide) d_OG_row_46) d_OG_row_49 (by decide)))) (by decide)) (og_sseq (og_callVv (og_acons (og_f_OG_rows (og_aload_n (i := 0) (t := 3) (j := 0) (by rfl) (by rfl) d_OG_row_52) og_w395 d_OG_row_53) (og_acons (og_f_OG_now (og_aload_n (i := 0) (t := 3) (j := 0) (by rfl) (by rfl) d_OG_row_56) og_w397 d_OG_row_57) (og_anil))) ok_Rows_choose (v_Rows_choose (by decide)) og_w889 d_OG_row_60) (og_slook (b1 := 0) (d := 116) (cs := [(0, 92), (1, 104)]) (og_iload_n (i := 1) (j := 1) (by rfl) (by rfl) d_OG_row_63) d_OG_row_64 (by decide) (by decide) (og_lkeq (by decide)) (fun x => og_scs (fun hx => og_sat (by simp at hx; subst hx; rfl) (og_sreti (og_callVi (og_acons (og_f_OG_rows (og_aload_n (i := 0) (t := 3) (j := 0) (by rfl) (by rfl) d_OG_row_92) og_w395 d_OG_row_93) (og_acons (og_f_OG_now (og_aload_n (i := 0) (t := 3) (j := 0) (by rfl) (by rfl) d_OG_row_96) og_w397 d_OG_row_97) (og_anil))) (by decide) ok_Rows_countFilled (v_Rows_countFilled (by decide)) og_w913 d_OG_row_100) d_OG_row_103)) (fun hx => og_scs (fun hx => og_sat (by simp at hx; subst hx; rfl) (og_sreti (og_callVi (og_acons (og_f_OG_rows (og_aload_n (i := 0) (t := 3) (j := 0) (by rfl) (by rfl) d_OG_row_104) og_w395 d_OG_row_105) (og_acons (og_f_OG_now (og_aload_n (i := 0) (t := 3) (j := 0) (by rfl) (by rfl) d_OG_row_108) og_w397 d_OG_row_109) (og_anil))) (by decide) ok_Rows_wholeHarm (v_Rows_wholeHarm (by decide)) og_w917 d_OG_row_112) d_OG_row_115)) (fun hx => og_sat (og_lkn (by simp_all)) (og_sreti (og_iald (N := 6) (og_f_Rows_chosen_N (og_f_OG_rows (og_aload_n (i := 0) (t := 3) (j := 0) (by rfl) (by rfl) d_OG_row_116) og_w395 d_OG_row_117) og_w358 d_OG_row_120) (by rfl) (og_isub (og_iload_n (i := 1) (j := 1) (by rfl) (by rfl) d_OG_row_123) (og_iconst (by decide) d_OG_row_124) d_OG_row_125) d_OG_row_126) d_OG_row_127)))))))) (fun h => by cases h)
abbrev og_c_Outlook_leastWill : ByteArray := prog_4_method_5_code
abbrev og_y_Outlook_leastWill : MethodName := ⟨"OpenGraves$Outlook", "leastWill", "(LOpenGraves$Script;LOpenGraves$Yard;I)I"⟩
theorem v_Outlook_leastWill {own : String} {idx dep : Nat} (h : 4 + 1 ≤ dep) : og_sV own idx og_y_Outlook_leastWill og_c_Outlook_leastWill 6 0 4 dep 7 3 := ⟨⟨6, og_sl_Outlook, og_T_Outlook, 9, rfl, by decide, rfl⟩, og_w926, og_w927, og_w14, og_w928, ⟨by decide +kernel, by decide +kernel, by decide +kernel⟩, h, by decide⟩
theorem d_Outlook_leastWill_0 : decode og_c_Outlook_leastWill 0 = .ok (.aload_n 0, 1) := by decide +kernel
theorem d_Outlook_leastWill_1 : decode og_c_Outlook_leastWill 1 = .ok (.getfield 22, 3) := by decide +kernel
theorem d_Outlook_leastWill_4 : decode og_c_Outlook_leastWill 4 = .ok (.aload_n 2, 1) := by decide +kernel
theorem d_Outlook_leastWill_5 : decode og_c_Outlook_leastWill 5 = .ok (.invokevirtual 42, 3) := by decide +kernel
theorem d_Outlook_leastWill_8 : decode og_c_Outlook_leastWill 8 = .ok (.aload_n 2, 1) := by decide +kernel
theorem d_Outlook_leastWill_9 : decode og_c_Outlook_leastWill 9 = .ok (.invokevirtual 50, 3) := by decide +kernel
theorem d_Outlook_leastWill_12 : decode og_c_Outlook_leastWill 12 = .ok (.istore 4, 2) := by decide +kernel
theorem d_Outlook_leastWill_14 : decode og_c_Outlook_leastWill 14 = .ok (.aload_n 2, 1) := by decide +kernel
theorem d_Outlook_leastWill_15 : decode og_c_Outlook_leastWill 15 = .ok (.getfield 74, 3) := by decide +kernel
theorem d_Outlook_leastWill_18 : decode og_c_Outlook_leastWill 18 = .ok (.iload_n 3, 1) := by decide +kernel
theorem d_Outlook_leastWill_19 : decode og_c_Outlook_leastWill 19 = .ok (.iaload, 1) := by decide +kernel
theorem d_Outlook_leastWill_20 : decode og_c_Outlook_leastWill 20 = .ok (.istore 5, 2) := by decide +kernel
theorem d_Outlook_leastWill_22 : decode og_c_Outlook_leastWill 22 = .ok (.iload 5, 2) := by decide +kernel
theorem d_Outlook_leastWill_24 : decode og_c_Outlook_leastWill 24 = .ok (.bipush 9, 2) := by decide +kernel
theorem d_Outlook_leastWill_26 : decode og_c_Outlook_leastWill 26 = .ok (.if_icmp .gt 43, 3) := by decide +kernel
theorem d_Outlook_leastWill_29 : decode og_c_Outlook_leastWill 29 = .ok (.aload_n 0, 1) := by decide +kernel
theorem d_Outlook_leastWill_30 : decode og_c_Outlook_leastWill 30 = .ok (.getfield 22, 3) := by decide +kernel
theorem d_Outlook_leastWill_33 : decode og_c_Outlook_leastWill 33 = .ok (.getfield 74, 3) := by decide +kernel
theorem d_Outlook_leastWill_36 : decode og_c_Outlook_leastWill 36 = .ok (.iload_n 3, 1) := by decide +kernel
theorem d_Outlook_leastWill_37 : decode og_c_Outlook_leastWill 37 = .ok (.iload 5, 2) := by decide +kernel
theorem d_Outlook_leastWill_39 : decode og_c_Outlook_leastWill 39 = .ok (.iastore, 1) := by decide +kernel
theorem d_Outlook_leastWill_40 : decode og_c_Outlook_leastWill 40 = .ok (.aload_n 0, 1) := by decide +kernel
theorem d_Outlook_leastWill_41 : decode og_c_Outlook_leastWill 41 = .ok (.getfield 15, 3) := by decide +kernel
theorem d_Outlook_leastWill_44 : decode og_c_Outlook_leastWill 44 = .ok (.aload_n 1, 1) := by decide +kernel
theorem d_Outlook_leastWill_45 : decode og_c_Outlook_leastWill 45 = .ok (.bipush 9, 2) := by decide +kernel
theorem d_Outlook_leastWill_47 : decode og_c_Outlook_leastWill 47 = .ok (.aload_n 0, 1) := by decide +kernel
theorem d_Outlook_leastWill_48 : decode og_c_Outlook_leastWill 48 = .ok (.getfield 22, 3) := by decide +kernel
theorem d_Outlook_leastWill_51 : decode og_c_Outlook_leastWill 51 = .ok (.iload_n 3, 1) := by decide +kernel
theorem d_Outlook_leastWill_52 : decode og_c_Outlook_leastWill 52 = .ok (.iload 4, 2) := by decide +kernel
theorem d_Outlook_leastWill_54 : decode og_c_Outlook_leastWill 54 = .ok (.invokevirtual 77, 3) := by decide +kernel
theorem d_Outlook_leastWill_57 : decode og_c_Outlook_leastWill 57 = .ok (.ifCond .eq 6, 3) := by decide +kernel
theorem d_Outlook_leastWill_60 : decode og_c_Outlook_leastWill 60 = .ok (.iload 5, 2) := by decide +kernel
theorem d_Outlook_leastWill_62 : decode og_c_Outlook_leastWill 62 = .ok (.ireturn, 1) := by decide +kernel
theorem d_Outlook_leastWill_63 : decode og_c_Outlook_leastWill 63 = .ok (.iinc 5 1, 3) := by decide +kernel
theorem d_Outlook_leastWill_66 : decode og_c_Outlook_leastWill 66 = .ok (.goto (-44), 3) := by decide +kernel
theorem d_Outlook_leastWill_69 : decode og_c_Outlook_leastWill 69 = .ok (.iconst (-1), 1) := by decide +kernel
theorem d_Outlook_leastWill_70 : decode og_c_Outlook_leastWill 70 = .ok (.ireturn, 1) := by decide +kernel
def m_Outlook_leastWill : og_Dn := og_den [11, 15, 16, 0] 6 0 (og_seq (og_exp (og_call m_Yard_become [og_fix (fun _ => 110) (og_loc 0), og_loc 2])) (og_seq (og_set 4 (og_call m_Yard_countAsking [og_loc 2])) (og_cut (og_seq (og_set 5 (og_ald 8 (og_fix (fun i => i + 7) (og_loc 2)) (og_loc 3))) (og_while (og_cc og_rle (og_loc 5) (og_k 9)) (og_seq (og_ast 8 (og_fix (fun i => i + 7) (og_fix (fun _ => 110) (og_loc 0))) (og_loc 3) (og_loc 5)) (og_if (og_cc og_rne (og_call m_Reckoner_value [og_fix (fun _ => 6) (og_loc 0), og_loc 1, og_k 9, og_fix (fun _ => 110) (og_loc 0), og_loc 3, og_loc 4]) (og_k 0)) (og_ret (og_loc 5)) (og_skip))) (og_inc 5 1))) (og_ret (og_k (-1))))))
set_option maxRecDepth 20000 in
theorem ok_Outlook_leastWill : og_MOK og_y_Outlook_leastWill og_c_Outlook_leastWill 6 0 4 [11, 15, 16, 0] m_Outlook_leastWill := og_method (b := 0) (lt' := []) (by decide +kernel) (by decide) (by decide) (og_sseq (og_callVv (og_acons (og_f_Outlook_trial (og_aload_n (i := 0) (t := 9) (j := 0) (by rfl) (by rfl) d_Outlook_leastWill_0) og_w319 d_Outlook_leastWill_1) (og_acons (og_aload_n (i := 2) (t := 14) (j := 2) (by rfl) (by rfl) d_Outlook_leastWill_4) (og_anil))) ok_Yard_become (v_Yard_become (by decide)) og_w821 d_Outlook_leastWill_5) (og_sseq (og_istore (i := 4) (lt' := [(0, 11), (1, 15), (2, 16), (3, 0), (4, 0)]) (og_callVi (og_acons (og_aload_n (i := 2) (t := 14) (j := 2) (by rfl) (by rfl) d_Outlook_leastWill_8) (og_anil)) (by decide) ok_Yard_countAsking (v_Yard_countAsking (by decide)) og_w826 d_Outlook_leastWill_9) (by decide) (by decide) d_Outlook_leastWill_12) (og_scut (og_sdrop (lt' := [(0, 11), (1, 15), (2, 16), (3, 0), (4, 0), (5, 0)]) (lt2 := [(0, 11), (1, 15), (2, 16), (3, 0), (4, 0)]) (og_sseq (og_istore (i := 5) (lt' := [(0, 11), (1, 15), (2, 16), (3, 0), (4, 0), (5, 0)]) (og_iald (N := 8) (og_f_Yard_will_N (og_aload_n (i := 2) (t := 14) (j := 2) (by rfl) (by rfl) d_Outlook_leastWill_14) og_w88 d_Outlook_leastWill_15) (by rfl) (og_iload_n (i := 3) (j := 3) (by rfl) (by rfl) d_Outlook_leastWill_18) d_Outlook_leastWill_19) (by decide) (by decide) d_Outlook_leastWill_20) (og_swhile (T := 29) (F := 69) (cp0 := 63) (og_ccn og_n_le (og_igt (tgt := 69) (og_iload (i := 5) (j := 5) (by rfl) d_Outlook_leastWill_22) (og_bipush (by decide) d_Outlook_leastWill_24) d_Outlook_leastWill_26 (by decide))) (og_sseq (og_iastore (N := 8) (og_f_Yard_will_N (og_f_Outlook_trial (og_aload_n (i := 0) (t := 9) (j := 0) (by rfl) (by rfl) d_Outlook_leastWill_29) og_w319 d_Outlook_leastWill_30) og_w88 d_Outlook_leastWill_33) (by rfl) (og_iload_n (i := 3) (j := 3) (by rfl) (by rfl) d_Outlook_leastWill_36) (og_iload (i := 5) (j := 5) (by rfl) d_Outlook_leastWill_37) d_Outlook_leastWill_39) (og_sif (T := 60) (F := 63) (og_ccn og_n_ne (og_zeq (tgt := 63) (og_callVi (og_acons (og_f_Outlook_reckoner (og_aload_n (i := 0) (t := 9) (j := 0) (by rfl) (by rfl) d_Outlook_leastWill_40) og_w318 d_Outlook_leastWill_41) (og_acons (og_aload_n (i := 1) (t := 13) (j := 1) (by rfl) (by rfl) d_Outlook_leastWill_44) (og_acons (og_bipush (by decide) d_Outlook_leastWill_45) (og_acons (og_f_Outlook_trial (og_aload_n (i := 0) (t := 9) (j := 0) (by rfl) (by rfl) d_Outlook_leastWill_47) og_w319 d_Outlook_leastWill_48) (og_acons (og_iload_n (i := 3) (j := 3) (by rfl) (by rfl) d_Outlook_leastWill_51) (og_acons (og_iload (i := 4) (j := 4) (by rfl) d_Outlook_leastWill_52) (og_anil))))))) (by decide) ok_Reckoner_value (v_Reckoner_value (by decide)) og_w929 d_Outlook_leastWill_54) d_Outlook_leastWill_57 (by decide))) (og_sreti (og_iload (i := 5) (j := 5) (by rfl) d_Outlook_leastWill_60) d_Outlook_leastWill_62) (og_sskip))) (og_gS (b' := 22) (og_iinc (j := 5) (lt' := [(0, 11), (1, 15), (2, 16), (3, 0), (4, 0), (5, 0)]) (by rfl) (by decide) (by decide) d_Outlook_leastWill_63) d_Outlook_leastWill_66 (by decide)))) (by decide)) (og_sreti (og_iconst (by decide) d_Outlook_leastWill_69) d_Outlook_leastWill_70)))) (fun h => by cases h)
abbrev og_c_OG_persuade : ByteArray := prog_1_method_17_code
abbrev og_y_OG_persuade : MethodName := ⟨"OpenGraves", "persuade", "(I)I"⟩
theorem v_OG_persuade {own : String} {idx dep : Nat} (h : 5 + 1 ≤ dep) : og_sV own idx og_y_OG_persuade og_c_OG_persuade 2 0 5 dep 1 1 := ⟨⟨0, og_sl_OG, og_T_OG, 17, rfl, by decide, rfl⟩, og_w922, og_w923, og_w1, og_w924, ⟨by decide +kernel, by decide +kernel, by decide +kernel⟩, h, by decide⟩
theorem d_OG_persuade_0 : decode og_c_OG_persuade 0 = .ok (.aload_n 0, 1) := by decide +kernel
theorem d_OG_persuade_1 : decode og_c_OG_persuade 1 = .ok (.getfield 90, 3) := by decide +kernel
theorem d_OG_persuade_4 : decode og_c_OG_persuade 4 = .ok (.iload_n 1, 1) := by decide +kernel
theorem d_OG_persuade_5 : decode og_c_OG_persuade 5 = .ok (.invokevirtual 217, 3) := by decide +kernel
theorem d_OG_persuade_8 : decode og_c_OG_persuade 8 = .ok (.ifCond .eq 25, 3) := by decide +kernel
theorem d_OG_persuade_11 : decode og_c_OG_persuade 11 = .ok (.aload_n 0, 1) := by decide +kernel
theorem d_OG_persuade_12 : decode og_c_OG_persuade 12 = .ok (.getfield 69, 3) := by decide +kernel
theorem d_OG_persuade_15 : decode og_c_OG_persuade 15 = .ok (.aload_n 0, 1) := by decide +kernel
theorem d_OG_persuade_16 : decode og_c_OG_persuade 16 = .ok (.getfield 10, 3) := by decide +kernel
theorem d_OG_persuade_19 : decode og_c_OG_persuade 19 = .ok (.getfield 37, 3) := by decide +kernel
theorem d_OG_persuade_22 : decode og_c_OG_persuade 22 = .ok (.aload_n 0, 1) := by decide +kernel
theorem d_OG_persuade_23 : decode og_c_OG_persuade 23 = .ok (.getfield 90, 3) := by decide +kernel
theorem d_OG_persuade_26 : decode og_c_OG_persuade 26 = .ok (.iload_n 1, 1) := by decide +kernel
theorem d_OG_persuade_27 : decode og_c_OG_persuade 27 = .ok (.invokevirtual 254, 3) := by decide +kernel
theorem d_OG_persuade_30 : decode og_c_OG_persuade 30 = .ok (.goto 4, 3) := by decide +kernel
theorem d_OG_persuade_33 : decode og_c_OG_persuade 33 = .ok (.iconst (-1), 1) := by decide +kernel
theorem d_OG_persuade_34 : decode og_c_OG_persuade 34 = .ok (.ireturn, 1) := by decide +kernel
def m_OG_persuade : og_Dn := og_den [5, 0] 2 0 (og_ret (og_ei (og_cb (og_call m_Yard_lives [og_fix (fun _ => 100) (og_loc 0), og_loc 1])) (og_call m_Outlook_leastWill [og_fix (fun _ => 10) (og_loc 0), og_fix (fun i => i + 2) (og_get 15 (og_loc 0)), og_fix (fun _ => 100) (og_loc 0), og_loc 1]) (og_k (-1))))
set_option maxRecDepth 20000 in
theorem ok_OG_persuade : og_MOK og_y_OG_persuade og_c_OG_persuade 2 0 5 [5, 0] m_OG_persuade := og_method (b := 0) (lt' := []) (by decide +kernel) (by decide) (by decide) (og_sreti (og_eite (og_cbeq (tgt := 33) (og_callVz (og_acons (og_f_OG_now (og_aload_n (i := 0) (t := 3) (j := 0) (by rfl) (by rfl) d_OG_persuade_0) og_w397 d_OG_persuade_1) (og_acons (og_iload_n (i := 1) (j := 1) (by rfl) (by rfl) d_OG_persuade_4) (og_anil))) (by decide) ok_Yard_lives (v_Yard_lives (by decide)) og_w788 d_OG_persuade_5) d_OG_persuade_8 (by decide)) (og_callVi (og_acons (og_f_OG_outlook (og_aload_n (i := 0) (t := 3) (j := 0) (by rfl) (by rfl) d_OG_persuade_11) og_w394 d_OG_persuade_12) (og_acons (og_f_Parish_rules_N (og_f_OG_told (og_aload_n (i := 0) (t := 3) (j := 0) (by rfl) (by rfl) d_OG_persuade_15) og_w404 d_OG_persuade_16) og_w150 d_OG_persuade_19) (og_acons (og_f_OG_now (og_aload_n (i := 0) (t := 3) (j := 0) (by rfl) (by rfl) d_OG_persuade_22) og_w397 d_OG_persuade_23) (og_acons (og_iload_n (i := 1) (j := 1) (by rfl) (by rfl) d_OG_persuade_26) (og_anil))))) (by decide) ok_Outlook_leastWill (v_Outlook_leastWill (by decide)) og_w925 d_OG_persuade_27) d_OG_persuade_30 (by decide) (og_iconst (by decide) d_OG_persuade_33)) d_OG_persuade_34) (fun h => by cases h)
abbrev og_c_Yard_canBeDug : ByteArray := prog_12_method_10_code
abbrev og_y_Yard_canBeDug : MethodName := ⟨"OpenGraves$Yard", "canBeDug", "(I)Z"⟩
theorem v_Yard_canBeDug {own : String} {idx dep : Nat} (h : 1 + 1 ≤ dep) : og_sV own idx og_y_Yard_canBeDug og_c_Yard_canBeDug 2 3 1 dep 12 1 := ⟨⟨11, og_sl_Yard, og_T_Yard, 13, rfl, by decide, rfl⟩, og_w943, og_w944, og_w3, og_w945, ⟨by decide +kernel, by decide +kernel, by decide +kernel⟩, h, by decide⟩
theorem d_Yard_canBeDug_0 : decode og_c_Yard_canBeDug 0 = .ok (.aload_n 0, 1) := by decide +kernel
theorem d_Yard_canBeDug_1 : decode og_c_Yard_canBeDug 1 = .ok (.getfield 21, 3) := by decide +kernel
theorem d_Yard_canBeDug_4 : decode og_c_Yard_canBeDug 4 = .ok (.iload_n 1, 1) := by decide +kernel
theorem d_Yard_canBeDug_5 : decode og_c_Yard_canBeDug 5 = .ok (.iaload, 1) := by decide +kernel
theorem d_Yard_canBeDug_6 : decode og_c_Yard_canBeDug 6 = .ok (.iconst (-1), 1) := by decide +kernel
theorem d_Yard_canBeDug_7 : decode og_c_Yard_canBeDug 7 = .ok (.if_icmp .ne 18, 3) := by decide +kernel
theorem d_Yard_canBeDug_10 : decode og_c_Yard_canBeDug 10 = .ok (.aload_n 0, 1) := by decide +kernel
theorem d_Yard_canBeDug_11 : decode og_c_Yard_canBeDug 11 = .ok (.getfield 15, 3) := by decide +kernel
theorem d_Yard_canBeDug_14 : decode og_c_Yard_canBeDug 14 = .ok (.iload_n 1, 1) := by decide +kernel
theorem d_Yard_canBeDug_15 : decode og_c_Yard_canBeDug 15 = .ok (.iaload, 1) := by decide +kernel
theorem d_Yard_canBeDug_16 : decode og_c_Yard_canBeDug 16 = .ok (.bipush 9, 2) := by decide +kernel
theorem d_Yard_canBeDug_18 : decode og_c_Yard_canBeDug 18 = .ok (.if_icmp .ge 7, 3) := by decide +kernel
theorem d_Yard_canBeDug_21 : decode og_c_Yard_canBeDug 21 = .ok (.iconst 1, 1) := by decide +kernel
theorem d_Yard_canBeDug_22 : decode og_c_Yard_canBeDug 22 = .ok (.goto 4, 3) := by decide +kernel
theorem d_Yard_canBeDug_25 : decode og_c_Yard_canBeDug 25 = .ok (.iconst 0, 1) := by decide +kernel
theorem d_Yard_canBeDug_26 : decode og_c_Yard_canBeDug 26 = .ok (.ireturn, 1) := by decide +kernel
def m_Yard_canBeDug : og_Dn := og_den [16, 0] 2 3 (og_retz (og_ec (og_and (og_cc og_req (og_ald 6 (og_fix (fun i => i + 4) (og_loc 0)) (og_loc 1)) (og_k (-1))) (og_cc og_rlt (og_ald 6 (og_fix (fun i => i + 2) (og_loc 0)) (og_loc 1)) (og_k 9)))))
set_option maxRecDepth 20000 in
theorem ok_Yard_canBeDug : og_MOK og_y_Yard_canBeDug og_c_Yard_canBeDug 2 3 1 [16, 0] m_Yard_canBeDug := og_method (b := 0) (lt' := []) (by decide +kernel) (by decide) (by decide) (og_sretz (og_econd (b := 0) (og_cand (og_ccn og_n_eq (og_ine (tgt := 25) (og_iald (N := 6) (og_f_Yard_who (og_aload_n (i := 0) (t := 14) (j := 0) (by rfl) (by rfl) d_Yard_canBeDug_0) og_w74 d_Yard_canBeDug_1) (by rfl) (og_iload_n (i := 1) (j := 1) (by rfl) (by rfl) d_Yard_canBeDug_4) d_Yard_canBeDug_5) (og_iconst (by decide) d_Yard_canBeDug_6) d_Yard_canBeDug_7 (by decide))) (og_ccn og_n_lt (og_ige (tgt := 25) (og_iald (N := 6) (og_f_Yard_deep (og_aload_n (i := 0) (t := 14) (j := 0) (by rfl) (by rfl) d_Yard_canBeDug_10) og_w65 d_Yard_canBeDug_11) (by rfl) (og_iload_n (i := 1) (j := 1) (by rfl) (by rfl) d_Yard_canBeDug_14) d_Yard_canBeDug_15) (og_bipush (by decide) d_Yard_canBeDug_16) d_Yard_canBeDug_18 (by decide)))) d_Yard_canBeDug_21 d_Yard_canBeDug_22 (by decide) d_Yard_canBeDug_25 (by rfl)) d_Yard_canBeDug_26) (fun h => by cases h)
abbrev og_c_Outlook_isDug : ByteArray := prog_4_method_7_code
abbrev og_y_Outlook_isDug : MethodName := ⟨"OpenGraves$Outlook", "isDug", "(I)Z"⟩
theorem v_Outlook_isDug {own : String} {idx dep : Nat} (h : 2 + 1 ≤ dep) : og_sV own idx og_y_Outlook_isDug og_c_Outlook_isDug 3 3 2 dep 7 1 := ⟨⟨6, og_sl_Outlook, og_T_Outlook, 9, rfl, by decide, rfl⟩, og_w940, (og_memP (⟨"OpenGraves$Outlook", "isDug", "(I)Z"⟩, 9) (List.mem_of_getElem? (i := 37) (by decide +kernel))), og_w14, og_w941, ⟨by decide +kernel, by decide +kernel, by decide +kernel⟩, h, by decide⟩
theorem d_Outlook_isDug_0 : decode og_c_Outlook_isDug 0 = .ok (.iconst 0, 1) := by decide +kernel
theorem d_Outlook_isDug_1 : decode og_c_Outlook_isDug 1 = .ok (.istore_n 2, 1) := by decide +kernel
theorem d_Outlook_isDug_2 : decode og_c_Outlook_isDug 2 = .ok (.iload_n 2, 1) := by decide +kernel
theorem d_Outlook_isDug_3 : decode og_c_Outlook_isDug 3 = .ok (.iload_n 1, 1) := by decide +kernel
theorem d_Outlook_isDug_4 : decode og_c_Outlook_isDug 4 = .ok (.if_icmp .ge 45, 3) := by decide +kernel
theorem d_Outlook_isDug_7 : decode og_c_Outlook_isDug 7 = .ok (.aload_n 0, 1) := by decide +kernel
theorem d_Outlook_isDug_8 : decode og_c_Outlook_isDug 8 = .ok (.getfield 22, 3) := by decide +kernel
theorem d_Outlook_isDug_11 : decode og_c_Outlook_isDug 11 = .ok (.aload_n 0, 1) := by decide +kernel
theorem d_Outlook_isDug_12 : decode og_c_Outlook_isDug 12 = .ok (.getfield 30, 3) := by decide +kernel
theorem d_Outlook_isDug_15 : decode og_c_Outlook_isDug 15 = .ok (.iload_n 2, 1) := by decide +kernel
theorem d_Outlook_isDug_16 : decode og_c_Outlook_isDug 16 = .ok (.iaload, 1) := by decide +kernel
theorem d_Outlook_isDug_17 : decode og_c_Outlook_isDug 17 = .ok (.invokevirtual 99, 3) := by decide +kernel
theorem d_Outlook_isDug_20 : decode og_c_Outlook_isDug 20 = .ok (.ifCond .ne 5, 3) := by decide +kernel
theorem d_Outlook_isDug_23 : decode og_c_Outlook_isDug 23 = .ok (.iconst 0, 1) := by decide +kernel
theorem d_Outlook_isDug_24 : decode og_c_Outlook_isDug 24 = .ok (.ireturn, 1) := by decide +kernel
theorem d_Outlook_isDug_25 : decode og_c_Outlook_isDug 25 = .ok (.aload_n 0, 1) := by decide +kernel
theorem d_Outlook_isDug_26 : decode og_c_Outlook_isDug 26 = .ok (.getfield 22, 3) := by decide +kernel
theorem d_Outlook_isDug_29 : decode og_c_Outlook_isDug 29 = .ok (.getfield 102, 3) := by decide +kernel
theorem d_Outlook_isDug_32 : decode og_c_Outlook_isDug 32 = .ok (.aload_n 0, 1) := by decide +kernel
theorem d_Outlook_isDug_33 : decode og_c_Outlook_isDug 33 = .ok (.getfield 30, 3) := by decide +kernel
theorem d_Outlook_isDug_36 : decode og_c_Outlook_isDug 36 = .ok (.iload_n 2, 1) := by decide +kernel
theorem d_Outlook_isDug_37 : decode og_c_Outlook_isDug 37 = .ok (.iaload, 1) := by decide +kernel
theorem d_Outlook_isDug_38 : decode og_c_Outlook_isDug 38 = .ok (.dup2, 1) := by decide +kernel
theorem d_Outlook_isDug_39 : decode og_c_Outlook_isDug 39 = .ok (.iaload, 1) := by decide +kernel
theorem d_Outlook_isDug_40 : decode og_c_Outlook_isDug 40 = .ok (.iconst 1, 1) := by decide +kernel
theorem d_Outlook_isDug_41 : decode og_c_Outlook_isDug 41 = .ok (.iadd, 1) := by decide +kernel
theorem d_Outlook_isDug_42 : decode og_c_Outlook_isDug 42 = .ok (.iastore, 1) := by decide +kernel
theorem d_Outlook_isDug_43 : decode og_c_Outlook_isDug 43 = .ok (.iinc 2 1, 3) := by decide +kernel
theorem d_Outlook_isDug_46 : decode og_c_Outlook_isDug 46 = .ok (.goto (-44), 3) := by decide +kernel
theorem d_Outlook_isDug_49 : decode og_c_Outlook_isDug 49 = .ok (.iconst 1, 1) := by decide +kernel
theorem d_Outlook_isDug_50 : decode og_c_Outlook_isDug 50 = .ok (.ireturn, 1) := by decide +kernel
def m_Outlook_isDug : og_Dn := og_den [11, 0] 3 3 (og_cut (og_seq (og_set 2 (og_k 0)) (og_while (og_cc og_rlt (og_loc 2) (og_loc 1)) (og_seq (og_if (og_not (og_cb (og_call m_Yard_canBeDug [og_fix (fun _ => 110) (og_loc 0), og_ald 4 (og_fix (fun _ => 12) (og_loc 0)) (og_loc 2)]))) (og_retz (og_k 0)) (og_skip)) (og_aop og_padd 6 (og_fix (fun i => i + 2) (og_fix (fun _ => 110) (og_loc 0))) (og_ald 4 (og_fix (fun _ => 12) (og_loc 0)) (og_loc 2)) (og_k 1))) (og_inc 2 1))) (og_retz (og_k 1)))
set_option maxRecDepth 20000 in
theorem ok_Outlook_isDug : og_MOK og_y_Outlook_isDug og_c_Outlook_isDug 3 3 2 [11, 0] m_Outlook_isDug := og_method (b := 0) (lt' := []) (by decide +kernel) (by decide) (by decide) (og_scut (og_sdrop (lt' := [(0, 11), (1, 0), (2, 0)]) (lt2 := [(0, 11), (1, 0)]) (og_sseq (og_istore_n (i := 2) (lt' := [(0, 11), (1, 0), (2, 0)]) (og_iconst (by decide) d_Outlook_isDug_0) (by rfl) (by decide) (by decide) d_Outlook_isDug_1) (og_swhile (T := 7) (F := 49) (cp0 := 43) (og_ccn og_n_lt (og_ige (tgt := 49) (og_iload_n (i := 2) (j := 2) (by rfl) (by rfl) d_Outlook_isDug_2) (og_iload_n (i := 1) (j := 1) (by rfl) (by rfl) d_Outlook_isDug_3) d_Outlook_isDug_4 (by decide))) (og_sseq (og_sif (T := 23) (F := 25) (og_cnot (og_cbne (tgt := 25) (og_callVz (og_acons (og_f_Outlook_trial (og_aload_n (i := 0) (t := 9) (j := 0) (by rfl) (by rfl) d_Outlook_isDug_7) og_w319 d_Outlook_isDug_8) (og_acons (og_iald (N := 4) (og_f_Outlook_foot (og_aload_n (i := 0) (t := 9) (j := 0) (by rfl) (by rfl) d_Outlook_isDug_11) og_w325 d_Outlook_isDug_12) (by rfl) (og_iload_n (i := 2) (j := 2) (by rfl) (by rfl) d_Outlook_isDug_15) d_Outlook_isDug_16) (og_anil))) (by decide) ok_Yard_canBeDug (v_Yard_canBeDug (by decide)) og_w942 d_Outlook_isDug_17) d_Outlook_isDug_20 (by decide))) (og_sretz (og_iconst (by decide) d_Outlook_isDug_23) d_Outlook_isDug_24) (og_sskip)) (og_aadd (N := 6) (og_f_Yard_deep_N (og_f_Outlook_trial (og_aload_n (i := 0) (t := 9) (j := 0) (by rfl) (by rfl) d_Outlook_isDug_25) og_w319 d_Outlook_isDug_26) og_w67 d_Outlook_isDug_29) (by rfl) (og_iald (N := 4) (og_f_Outlook_foot (og_aload_n (i := 0) (t := 9) (j := 0) (by rfl) (by rfl) d_Outlook_isDug_32) og_w325 d_Outlook_isDug_33) (by rfl) (og_iload_n (i := 2) (j := 2) (by rfl) (by rfl) d_Outlook_isDug_36) d_Outlook_isDug_37) d_Outlook_isDug_38 d_Outlook_isDug_39 (og_iconst (by decide) d_Outlook_isDug_40) d_Outlook_isDug_41 d_Outlook_isDug_42)) (og_gS (b' := 2) (og_iinc (j := 2) (lt' := [(0, 11), (1, 0), (2, 0)]) (by rfl) (by decide) (by decide) d_Outlook_isDug_43) d_Outlook_isDug_46 (by decide)))) (by decide)) (og_sretz (og_iconst (by decide) d_Outlook_isDug_49) d_Outlook_isDug_50)) (fun h => by cases h)
abbrev og_c_Outlook_nextFeet : ByteArray := prog_4_method_8_code
abbrev og_y_Outlook_nextFeet : MethodName := ⟨"OpenGraves$Outlook", "nextFeet", "(II)Z"⟩
theorem v_Outlook_nextFeet {own : String} {idx dep : Nat} (h : 1 + 1 ≤ dep) : og_sV own idx og_y_Outlook_nextFeet og_c_Outlook_nextFeet 6 3 1 dep 7 2 := ⟨⟨6, og_sl_Outlook, og_T_Outlook, 9, rfl, by decide, rfl⟩, og_w949, (og_memP (⟨"OpenGraves$Outlook", "nextFeet", "(II)Z"⟩, 9) (List.mem_of_getElem? (i := 38) (by decide +kernel))), og_w14, og_w950, ⟨by decide +kernel, by decide +kernel, by decide +kernel⟩, h, by decide⟩
theorem d_Outlook_nextFeet_0 : decode og_c_Outlook_nextFeet 0 = .ok (.iload_n 1, 1) := by decide +kernel
theorem d_Outlook_nextFeet_1 : decode og_c_Outlook_nextFeet 1 = .ok (.iconst 1, 1) := by decide +kernel
theorem d_Outlook_nextFeet_2 : decode og_c_Outlook_nextFeet 2 = .ok (.isub, 1) := by decide +kernel
theorem d_Outlook_nextFeet_3 : decode og_c_Outlook_nextFeet 3 = .ok (.istore_n 3, 1) := by decide +kernel
theorem d_Outlook_nextFeet_4 : decode og_c_Outlook_nextFeet 4 = .ok (.iload_n 3, 1) := by decide +kernel
theorem d_Outlook_nextFeet_5 : decode og_c_Outlook_nextFeet 5 = .ok (.ifCond .lt 57, 3) := by decide +kernel
theorem d_Outlook_nextFeet_8 : decode og_c_Outlook_nextFeet 8 = .ok (.aload_n 0, 1) := by decide +kernel
theorem d_Outlook_nextFeet_9 : decode og_c_Outlook_nextFeet 9 = .ok (.getfield 30, 3) := by decide +kernel
theorem d_Outlook_nextFeet_12 : decode og_c_Outlook_nextFeet 12 = .ok (.iload_n 3, 1) := by decide +kernel
theorem d_Outlook_nextFeet_13 : decode og_c_Outlook_nextFeet 13 = .ok (.iaload, 1) := by decide +kernel
theorem d_Outlook_nextFeet_14 : decode og_c_Outlook_nextFeet 14 = .ok (.iconst 1, 1) := by decide +kernel
theorem d_Outlook_nextFeet_15 : decode og_c_Outlook_nextFeet 15 = .ok (.iadd, 1) := by decide +kernel
theorem d_Outlook_nextFeet_16 : decode og_c_Outlook_nextFeet 16 = .ok (.iload_n 2, 1) := by decide +kernel
theorem d_Outlook_nextFeet_17 : decode og_c_Outlook_nextFeet 17 = .ok (.if_icmp .ge 39, 3) := by decide +kernel
theorem d_Outlook_nextFeet_20 : decode og_c_Outlook_nextFeet 20 = .ok (.aload_n 0, 1) := by decide +kernel
theorem d_Outlook_nextFeet_21 : decode og_c_Outlook_nextFeet 21 = .ok (.getfield 30, 3) := by decide +kernel
theorem d_Outlook_nextFeet_24 : decode og_c_Outlook_nextFeet 24 = .ok (.iload_n 3, 1) := by decide +kernel
theorem d_Outlook_nextFeet_25 : decode og_c_Outlook_nextFeet 25 = .ok (.iaload, 1) := by decide +kernel
theorem d_Outlook_nextFeet_26 : decode og_c_Outlook_nextFeet 26 = .ok (.iconst 1, 1) := by decide +kernel
theorem d_Outlook_nextFeet_27 : decode og_c_Outlook_nextFeet 27 = .ok (.iadd, 1) := by decide +kernel
theorem d_Outlook_nextFeet_28 : decode og_c_Outlook_nextFeet 28 = .ok (.istore 4, 2) := by decide +kernel
theorem d_Outlook_nextFeet_30 : decode og_c_Outlook_nextFeet 30 = .ok (.iload_n 3, 1) := by decide +kernel
theorem d_Outlook_nextFeet_31 : decode og_c_Outlook_nextFeet 31 = .ok (.istore 5, 2) := by decide +kernel
theorem d_Outlook_nextFeet_33 : decode og_c_Outlook_nextFeet 33 = .ok (.iload 5, 2) := by decide +kernel
theorem d_Outlook_nextFeet_35 : decode og_c_Outlook_nextFeet 35 = .ok (.iload_n 1, 1) := by decide +kernel
theorem d_Outlook_nextFeet_36 : decode og_c_Outlook_nextFeet 36 = .ok (.if_icmp .ge 18, 3) := by decide +kernel
theorem d_Outlook_nextFeet_39 : decode og_c_Outlook_nextFeet 39 = .ok (.aload_n 0, 1) := by decide +kernel
theorem d_Outlook_nextFeet_40 : decode og_c_Outlook_nextFeet 40 = .ok (.getfield 30, 3) := by decide +kernel
theorem d_Outlook_nextFeet_43 : decode og_c_Outlook_nextFeet 43 = .ok (.iload 5, 2) := by decide +kernel
theorem d_Outlook_nextFeet_45 : decode og_c_Outlook_nextFeet 45 = .ok (.iload 4, 2) := by decide +kernel
theorem d_Outlook_nextFeet_47 : decode og_c_Outlook_nextFeet 47 = .ok (.iastore, 1) := by decide +kernel
theorem d_Outlook_nextFeet_48 : decode og_c_Outlook_nextFeet 48 = .ok (.iinc 5 1, 3) := by decide +kernel
theorem d_Outlook_nextFeet_51 : decode og_c_Outlook_nextFeet 51 = .ok (.goto (-18), 3) := by decide +kernel
theorem d_Outlook_nextFeet_54 : decode og_c_Outlook_nextFeet 54 = .ok (.iconst 1, 1) := by decide +kernel
theorem d_Outlook_nextFeet_55 : decode og_c_Outlook_nextFeet 55 = .ok (.ireturn, 1) := by decide +kernel
theorem d_Outlook_nextFeet_56 : decode og_c_Outlook_nextFeet 56 = .ok (.iinc 3 (-1), 3) := by decide +kernel
theorem d_Outlook_nextFeet_59 : decode og_c_Outlook_nextFeet 59 = .ok (.goto (-55), 3) := by decide +kernel
theorem d_Outlook_nextFeet_62 : decode og_c_Outlook_nextFeet 62 = .ok (.iconst 0, 1) := by decide +kernel
theorem d_Outlook_nextFeet_63 : decode og_c_Outlook_nextFeet 63 = .ok (.ireturn, 1) := by decide +kernel
def m_Outlook_nextFeet : og_Dn := og_den [11, 0, 0] 6 3 (og_cut (og_seq (og_set 3 (og_sub (og_loc 1) (og_k 1))) (og_while (og_cc og_rge (og_loc 3) (og_k 0)) (og_if (og_cc og_rlt (og_add (og_ald 4 (og_fix (fun _ => 12) (og_loc 0)) (og_loc 3)) (og_k 1)) (og_loc 2)) (og_seq (og_set 4 (og_add (og_ald 4 (og_fix (fun _ => 12) (og_loc 0)) (og_loc 3)) (og_k 1))) (og_cut (og_seq (og_set 5 (og_loc 3)) (og_while (og_cc og_rlt (og_loc 5) (og_loc 1)) (og_ast 4 (og_fix (fun _ => 12) (og_loc 0)) (og_loc 5) (og_loc 4)) (og_inc 5 1))) (og_retz (og_k 1)))) (og_skip)) (og_inc 3 (-1)))) (og_retz (og_k 0)))
set_option maxRecDepth 20000 in
theorem ok_Outlook_nextFeet : og_MOK og_y_Outlook_nextFeet og_c_Outlook_nextFeet 6 3 1 [11, 0, 0] m_Outlook_nextFeet := og_method (b := 0) (lt' := []) (by decide +kernel) (by decide) (by decide) (og_scut (og_sdrop (lt' := [(0, 11), (1, 0), (2, 0), (3, 0)]) (lt2 := [(0, 11), (1, 0), (2, 0)]) (og_sseq (og_istore_n (i := 3) (lt' := [(0, 11), (1, 0), (2, 0), (3, 0)]) (og_isub (og_iload_n (i := 1) (j := 1) (by rfl) (by rfl) d_Outlook_nextFeet_0) (og_iconst (by decide) d_Outlook_nextFeet_1) d_Outlook_nextFeet_2) (by rfl) (by decide) (by decide) d_Outlook_nextFeet_3) (og_swhile (T := 8) (F := 62) (cp0 := 56) (og_ccn og_n_ge (og_zlt (tgt := 62) (og_iload_n (i := 3) (j := 3) (by rfl) (by rfl) d_Outlook_nextFeet_4) d_Outlook_nextFeet_5 (by decide))) (og_sif (T := 20) (F := 56) (og_ccn og_n_lt (og_ige (tgt := 56) (og_iadd (og_iald (N := 4) (og_f_Outlook_foot (og_aload_n (i := 0) (t := 9) (j := 0) (by rfl) (by rfl) d_Outlook_nextFeet_8) og_w325 d_Outlook_nextFeet_9) (by rfl) (og_iload_n (i := 3) (j := 3) (by rfl) (by rfl) d_Outlook_nextFeet_12) d_Outlook_nextFeet_13) (og_iconst (by decide) d_Outlook_nextFeet_14) d_Outlook_nextFeet_15) (og_iload_n (i := 2) (j := 2) (by rfl) (by rfl) d_Outlook_nextFeet_16) d_Outlook_nextFeet_17 (by decide))) (og_sseq (og_istore (i := 4) (lt' := [(0, 11), (1, 0), (2, 0), (3, 0), (4, 0)]) (og_iadd (og_iald (N := 4) (og_f_Outlook_foot (og_aload_n (i := 0) (t := 9) (j := 0) (by rfl) (by rfl) d_Outlook_nextFeet_20) og_w325 d_Outlook_nextFeet_21) (by rfl) (og_iload_n (i := 3) (j := 3) (by rfl) (by rfl) d_Outlook_nextFeet_24) d_Outlook_nextFeet_25) (og_iconst (by decide) d_Outlook_nextFeet_26) d_Outlook_nextFeet_27) (by decide) (by decide) d_Outlook_nextFeet_28) (og_scut (og_sdrop (lt' := [(0, 11), (1, 0), (2, 0), (3, 0), (4, 0), (5, 0)]) (lt2 := [(0, 11), (1, 0), (2, 0), (3, 0), (4, 0)]) (og_sseq (og_istore (i := 5) (lt' := [(0, 11), (1, 0), (2, 0), (3, 0), (4, 0), (5, 0)]) (og_iload_n (i := 3) (j := 3) (by rfl) (by rfl) d_Outlook_nextFeet_30) (by decide) (by decide) d_Outlook_nextFeet_31) (og_swhile (T := 39) (F := 54) (cp0 := 48) (og_ccn og_n_lt (og_ige (tgt := 54) (og_iload (i := 5) (j := 5) (by rfl) d_Outlook_nextFeet_33) (og_iload_n (i := 1) (j := 1) (by rfl) (by rfl) d_Outlook_nextFeet_35) d_Outlook_nextFeet_36 (by decide))) (og_iastore (N := 4) (og_f_Outlook_foot (og_aload_n (i := 0) (t := 9) (j := 0) (by rfl) (by rfl) d_Outlook_nextFeet_39) og_w325 d_Outlook_nextFeet_40) (by rfl) (og_iload (i := 5) (j := 5) (by rfl) d_Outlook_nextFeet_43) (og_iload (i := 4) (j := 4) (by rfl) d_Outlook_nextFeet_45) d_Outlook_nextFeet_47) (og_gS (b' := 33) (og_iinc (j := 5) (lt' := [(0, 11), (1, 0), (2, 0), (3, 0), (4, 0), (5, 0)]) (by rfl) (by decide) (by decide) d_Outlook_nextFeet_48) d_Outlook_nextFeet_51 (by decide)))) (by decide)) (og_sretz (og_iconst (by decide) d_Outlook_nextFeet_54) d_Outlook_nextFeet_55))) (og_sskip)) (og_gS (b' := 4) (og_iinc (j := 3) (lt' := [(0, 11), (1, 0), (2, 0), (3, 0)]) (by rfl) (by decide) (by decide) d_Outlook_nextFeet_56) d_Outlook_nextFeet_59 (by decide)))) (by decide)) (og_sretz (og_iconst (by decide) d_Outlook_nextFeet_62) d_Outlook_nextFeet_63)) (fun h => by cases h)
abbrev og_c_Outlook_mostTaken : ByteArray := prog_4_method_6_code
abbrev og_y_Outlook_mostTaken : MethodName := ⟨"OpenGraves$Outlook", "mostTaken", "(LOpenGraves$Script;LOpenGraves$Yard;I)I"⟩
theorem v_Outlook_mostTaken {own : String} {idx dep : Nat} (h : 7 + 1 ≤ dep) : og_sV own idx og_y_Outlook_mostTaken og_c_Outlook_mostTaken 8 0 7 dep 7 3 := ⟨⟨6, og_sl_Outlook, og_T_Outlook, 9, rfl, by decide, rfl⟩, og_w935, og_w936, og_w14, og_w937, ⟨by decide +kernel, by decide +kernel, by decide +kernel⟩, h, by decide⟩
theorem d_Outlook_mostTaken_0 : decode og_c_Outlook_mostTaken 0 = .ok (.iconst 0, 1) := by decide +kernel
theorem d_Outlook_mostTaken_1 : decode og_c_Outlook_mostTaken 1 = .ok (.istore 4, 2) := by decide +kernel
theorem d_Outlook_mostTaken_3 : decode og_c_Outlook_mostTaken 3 = .ok (.iload 4, 2) := by decide +kernel
theorem d_Outlook_mostTaken_5 : decode og_c_Outlook_mostTaken 5 = .ok (.iconst 4, 1) := by decide +kernel
theorem d_Outlook_mostTaken_6 : decode og_c_Outlook_mostTaken 6 = .ok (.if_icmp .ge 17, 3) := by decide +kernel
theorem d_Outlook_mostTaken_9 : decode og_c_Outlook_mostTaken 9 = .ok (.aload_n 0, 1) := by decide +kernel
theorem d_Outlook_mostTaken_10 : decode og_c_Outlook_mostTaken 10 = .ok (.getfield 30, 3) := by decide +kernel
theorem d_Outlook_mostTaken_13 : decode og_c_Outlook_mostTaken 13 = .ok (.iload 4, 2) := by decide +kernel
theorem d_Outlook_mostTaken_15 : decode og_c_Outlook_mostTaken 15 = .ok (.iconst 0, 1) := by decide +kernel
theorem d_Outlook_mostTaken_16 : decode og_c_Outlook_mostTaken 16 = .ok (.iastore, 1) := by decide +kernel
theorem d_Outlook_mostTaken_17 : decode og_c_Outlook_mostTaken 17 = .ok (.iinc 4 1, 3) := by decide +kernel
theorem d_Outlook_mostTaken_20 : decode og_c_Outlook_mostTaken 20 = .ok (.goto (-17), 3) := by decide +kernel
theorem d_Outlook_mostTaken_23 : decode og_c_Outlook_mostTaken 23 = .ok (.iconst (-1), 1) := by decide +kernel
theorem d_Outlook_mostTaken_24 : decode og_c_Outlook_mostTaken 24 = .ok (.istore 4, 2) := by decide +kernel
theorem d_Outlook_mostTaken_26 : decode og_c_Outlook_mostTaken 26 = .ok (.aload_n 2, 1) := by decide +kernel
theorem d_Outlook_mostTaken_27 : decode og_c_Outlook_mostTaken 27 = .ok (.getfield 83, 3) := by decide +kernel
theorem d_Outlook_mostTaken_30 : decode og_c_Outlook_mostTaken 30 = .ok (.ifCond .le 7, 3) := by decide +kernel
theorem d_Outlook_mostTaken_33 : decode og_c_Outlook_mostTaken 33 = .ok (.iconst 1, 1) := by decide +kernel
theorem d_Outlook_mostTaken_34 : decode og_c_Outlook_mostTaken 34 = .ok (.goto 4, 3) := by decide +kernel
theorem d_Outlook_mostTaken_37 : decode og_c_Outlook_mostTaken 37 = .ok (.iconst 0, 1) := by decide +kernel
theorem d_Outlook_mostTaken_38 : decode og_c_Outlook_mostTaken 38 = .ok (.istore 5, 2) := by decide +kernel
theorem d_Outlook_mostTaken_40 : decode og_c_Outlook_mostTaken 40 = .ok (.iconst 0, 1) := by decide +kernel
theorem d_Outlook_mostTaken_41 : decode og_c_Outlook_mostTaken 41 = .ok (.istore 6, 2) := by decide +kernel
theorem d_Outlook_mostTaken_43 : decode og_c_Outlook_mostTaken 43 = .ok (.iload 6, 2) := by decide +kernel
theorem d_Outlook_mostTaken_45 : decode og_c_Outlook_mostTaken 45 = .ok (.bipush 126, 2) := by decide +kernel
theorem d_Outlook_mostTaken_47 : decode og_c_Outlook_mostTaken 47 = .ok (.if_icmp .ge 79, 3) := by decide +kernel
theorem d_Outlook_mostTaken_50 : decode og_c_Outlook_mostTaken 50 = .ok (.iload 5, 2) := by decide +kernel
theorem d_Outlook_mostTaken_52 : decode og_c_Outlook_mostTaken 52 = .ok (.ifCond .eq 74, 3) := by decide +kernel
theorem d_Outlook_mostTaken_55 : decode og_c_Outlook_mostTaken 55 = .ok (.aload_n 0, 1) := by decide +kernel
theorem d_Outlook_mostTaken_56 : decode og_c_Outlook_mostTaken 56 = .ok (.getfield 22, 3) := by decide +kernel
theorem d_Outlook_mostTaken_59 : decode og_c_Outlook_mostTaken 59 = .ok (.aload_n 2, 1) := by decide +kernel
theorem d_Outlook_mostTaken_60 : decode og_c_Outlook_mostTaken 60 = .ok (.invokevirtual 42, 3) := by decide +kernel
theorem d_Outlook_mostTaken_63 : decode og_c_Outlook_mostTaken 63 = .ok (.aload_n 0, 1) := by decide +kernel
theorem d_Outlook_mostTaken_64 : decode og_c_Outlook_mostTaken 64 = .ok (.iload_n 3, 1) := by decide +kernel
theorem d_Outlook_mostTaken_65 : decode og_c_Outlook_mostTaken 65 = .ok (.invokevirtual 86, 3) := by decide +kernel
theorem d_Outlook_mostTaken_68 : decode og_c_Outlook_mostTaken 68 = .ok (.ifCond .eq 13, 3) := by decide +kernel
theorem d_Outlook_mostTaken_71 : decode og_c_Outlook_mostTaken 71 = .ok (.aload_n 0, 1) := by decide +kernel
theorem d_Outlook_mostTaken_72 : decode og_c_Outlook_mostTaken 72 = .ok (.aload_n 1, 1) := by decide +kernel
theorem d_Outlook_mostTaken_73 : decode og_c_Outlook_mostTaken 73 = .ok (.bipush 12, 2) := by decide +kernel
theorem d_Outlook_mostTaken_75 : decode og_c_Outlook_mostTaken 75 = .ok (.invokevirtual 46, 3) := by decide +kernel
theorem d_Outlook_mostTaken_78 : decode og_c_Outlook_mostTaken 78 = .ok (.goto 4, 3) := by decide +kernel
theorem d_Outlook_mostTaken_81 : decode og_c_Outlook_mostTaken 81 = .ok (.iconst (-1), 1) := by decide +kernel
theorem d_Outlook_mostTaken_82 : decode og_c_Outlook_mostTaken 82 = .ok (.istore 7, 2) := by decide +kernel
theorem d_Outlook_mostTaken_84 : decode og_c_Outlook_mostTaken 84 = .ok (.iload 7, 2) := by decide +kernel
theorem d_Outlook_mostTaken_86 : decode og_c_Outlook_mostTaken 86 = .ok (.iload 4, 2) := by decide +kernel
theorem d_Outlook_mostTaken_88 : decode og_c_Outlook_mostTaken 88 = .ok (.if_icmp .le 21, 3) := by decide +kernel
theorem d_Outlook_mostTaken_91 : decode og_c_Outlook_mostTaken 91 = .ok (.iload 7, 2) := by decide +kernel
theorem d_Outlook_mostTaken_93 : decode og_c_Outlook_mostTaken 93 = .ok (.istore 4, 2) := by decide +kernel
theorem d_Outlook_mostTaken_95 : decode og_c_Outlook_mostTaken 95 = .ok (.aload_n 0, 1) := by decide +kernel
theorem d_Outlook_mostTaken_96 : decode og_c_Outlook_mostTaken 96 = .ok (.getfield 30, 3) := by decide +kernel
theorem d_Outlook_mostTaken_99 : decode og_c_Outlook_mostTaken 99 = .ok (.iconst 0, 1) := by decide +kernel
theorem d_Outlook_mostTaken_100 : decode og_c_Outlook_mostTaken 100 = .ok (.aload_n 0, 1) := by decide +kernel
theorem d_Outlook_mostTaken_101 : decode og_c_Outlook_mostTaken 101 = .ok (.getfield 33, 3) := by decide +kernel
theorem d_Outlook_mostTaken_104 : decode og_c_Outlook_mostTaken 104 = .ok (.iconst 0, 1) := by decide +kernel
theorem d_Outlook_mostTaken_105 : decode og_c_Outlook_mostTaken 105 = .ok (.iconst 4, 1) := by decide +kernel
theorem d_Outlook_mostTaken_106 : decode og_c_Outlook_mostTaken 106 = .ok (.invokestatic 89, 3) := by decide +kernel
theorem d_Outlook_mostTaken_109 : decode og_c_Outlook_mostTaken 109 = .ok (.aload_n 0, 1) := by decide +kernel
theorem d_Outlook_mostTaken_110 : decode og_c_Outlook_mostTaken 110 = .ok (.iload_n 3, 1) := by decide +kernel
theorem d_Outlook_mostTaken_111 : decode og_c_Outlook_mostTaken 111 = .ok (.aload_n 2, 1) := by decide +kernel
theorem d_Outlook_mostTaken_112 : decode og_c_Outlook_mostTaken 112 = .ok (.getfield 83, 3) := by decide +kernel
theorem d_Outlook_mostTaken_115 : decode og_c_Outlook_mostTaken 115 = .ok (.invokevirtual 95, 3) := by decide +kernel
theorem d_Outlook_mostTaken_118 : decode og_c_Outlook_mostTaken 118 = .ok (.istore 5, 2) := by decide +kernel
theorem d_Outlook_mostTaken_120 : decode og_c_Outlook_mostTaken 120 = .ok (.iinc 6 1, 3) := by decide +kernel
theorem d_Outlook_mostTaken_123 : decode og_c_Outlook_mostTaken 123 = .ok (.goto (-80), 3) := by decide +kernel
theorem d_Outlook_mostTaken_126 : decode og_c_Outlook_mostTaken 126 = .ok (.iload 4, 2) := by decide +kernel
theorem d_Outlook_mostTaken_128 : decode og_c_Outlook_mostTaken 128 = .ok (.ireturn, 1) := by decide +kernel
def m_Outlook_mostTaken : og_Dn := og_den [11, 15, 16, 0] 8 0 (og_cut (og_seq (og_set 4 (og_k 0)) (og_while (og_cc og_rlt (og_loc 4) (og_k 4)) (og_ast 4 (og_fix (fun _ => 12) (og_loc 0)) (og_loc 4) (og_k 0)) (og_inc 4 1))) (og_seq (og_set 4 (og_k (-1))) (og_seq (og_set 5 (og_ec (og_cc og_rgt (og_get 0 (og_loc 2)) (og_k 0)))) (og_cut (og_seq (og_set 6 (og_k 0)) (og_while (og_and (og_cc og_rlt (og_loc 6) (og_k 126)) (og_cb (og_loc 5))) (og_seq (og_exp (og_call m_Yard_become [og_fix (fun _ => 110) (og_loc 0), og_loc 2])) (og_seq (og_set 7 (og_ei (og_cb (og_call m_Outlook_isDug [og_loc 0, og_loc 3])) (og_call m_Outlook_takenBehind [og_loc 0, og_loc 1, og_k 12]) (og_k (-1)))) (og_cut (og_if (og_cc og_rgt (og_loc 7) (og_loc 4)) (og_seq (og_set 4 (og_loc 7)) (og_acp 4 4 (og_fix (fun _ => 12) (og_loc 0)) (og_k 0) (og_fix (fun _ => 13) (og_loc 0)) (og_k 0) (og_k 4))) (og_skip)) (og_set 5 (og_call m_Outlook_nextFeet [og_loc 0, og_loc 3, og_get 0 (og_loc 2)]))))) (og_inc 6 1))) (og_ret (og_loc 4))))))
set_option maxRecDepth 20000 in
theorem ok_Outlook_mostTaken : og_MOK og_y_Outlook_mostTaken og_c_Outlook_mostTaken 8 0 7 [11, 15, 16, 0] m_Outlook_mostTaken := og_method (b := 0) (lt' := []) (by decide +kernel) (by decide) (by decide) (og_scut (og_sdrop (lt' := [(0, 11), (1, 15), (2, 16), (3, 0), (4, 0)]) (lt2 := [(0, 11), (1, 15), (2, 16), (3, 0)]) (og_sseq (og_istore (i := 4) (lt' := [(0, 11), (1, 15), (2, 16), (3, 0), (4, 0)]) (og_iconst (by decide) d_Outlook_mostTaken_0) (by decide) (by decide) d_Outlook_mostTaken_1) (og_swhile (T := 9) (F := 23) (cp0 := 17) (og_ccn og_n_lt (og_ige (tgt := 23) (og_iload (i := 4) (j := 4) (by rfl) d_Outlook_mostTaken_3) (og_iconst (by decide) d_Outlook_mostTaken_5) d_Outlook_mostTaken_6 (by decide))) (og_iastore (N := 4) (og_f_Outlook_foot (og_aload_n (i := 0) (t := 9) (j := 0) (by rfl) (by rfl) d_Outlook_mostTaken_9) og_w325 d_Outlook_mostTaken_10) (by rfl) (og_iload (i := 4) (j := 4) (by rfl) d_Outlook_mostTaken_13) (og_iconst (by decide) d_Outlook_mostTaken_15) d_Outlook_mostTaken_16) (og_gS (b' := 3) (og_iinc (j := 4) (lt' := [(0, 11), (1, 15), (2, 16), (3, 0), (4, 0)]) (by rfl) (by decide) (by decide) d_Outlook_mostTaken_17) d_Outlook_mostTaken_20 (by decide)))) (by decide)) (og_sseq (og_istore (i := 4) (lt' := [(0, 11), (1, 15), (2, 16), (3, 0), (4, 0)]) (og_iconst (by decide) d_Outlook_mostTaken_23) (by decide) (by decide) d_Outlook_mostTaken_24) (og_sseq (og_istore (i := 5) (lt' := [(0, 11), (1, 15), (2, 16), (3, 0), (4, 0), (5, 0)]) (og_econd (b := 0) (og_ccn og_n_gt (og_zle (tgt := 37) (og_f_Yard_graves_N (og_aload_n (i := 2) (t := 14) (j := 2) (by rfl) (by rfl) d_Outlook_mostTaken_26) og_w46 d_Outlook_mostTaken_27) d_Outlook_mostTaken_30 (by decide))) d_Outlook_mostTaken_33 d_Outlook_mostTaken_34 (by decide) d_Outlook_mostTaken_37 (by rfl)) (by decide) (by decide) d_Outlook_mostTaken_38) (og_scut (og_sdrop (lt' := [(0, 11), (1, 15), (2, 16), (3, 0), (4, 0), (5, 0), (6, 0)]) (lt2 := [(0, 11), (1, 15), (2, 16), (3, 0), (4, 0), (5, 0)]) (og_sseq (og_istore (i := 6) (lt' := [(0, 11), (1, 15), (2, 16), (3, 0), (4, 0), (5, 0), (6, 0)]) (og_iconst (by decide) d_Outlook_mostTaken_40) (by decide) (by decide) d_Outlook_mostTaken_41) (og_swhile (T := 55) (F := 126) (cp0 := 120) (og_cand (og_ccn og_n_lt (og_ige (tgt := 126) (og_iload (i := 6) (j := 6) (by rfl) d_Outlook_mostTaken_43) (og_bipush (by decide) d_Outlook_mostTaken_45) d_Outlook_mostTaken_47 (by decide))) (og_cbeq (tgt := 126) (og_iload (i := 5) (j := 5) (by rfl) d_Outlook_mostTaken_50) d_Outlook_mostTaken_52 (by decide))) (og_sdrop (lt' := [(0, 11), (1, 15), (2, 16), (3, 0), (4, 0), (5, 0), (6, 0), (7, 0)]) (lt2 := [(0, 11), (1, 15), (2, 16), (3, 0), (4, 0), (5, 0), (6, 0)]) (og_sseq (og_callVv (og_acons (og_f_Outlook_trial (og_aload_n (i := 0) (t := 9) (j := 0) (by rfl) (by rfl) d_Outlook_mostTaken_55) og_w319 d_Outlook_mostTaken_56) (og_acons (og_aload_n (i := 2) (t := 14) (j := 2) (by rfl) (by rfl) d_Outlook_mostTaken_59) (og_anil))) ok_Yard_become (v_Yard_become (by decide)) og_w821 d_Outlook_mostTaken_60) (og_sseq (og_istore (i := 7) (lt' := [(0, 11), (1, 15), (2, 16), (3, 0), (4, 0), (5, 0), (6, 0), (7, 0)]) (og_eite (og_cbeq (tgt := 81) (og_callVz (og_acons (og_aload_n (i := 0) (t := 9) (j := 0) (by rfl) (by rfl) d_Outlook_mostTaken_63) (og_acons (og_iload_n (i := 3) (j := 3) (by rfl) (by rfl) d_Outlook_mostTaken_64) (og_anil))) (by decide) ok_Outlook_isDug (v_Outlook_isDug (by decide)) og_w938 d_Outlook_mostTaken_65) d_Outlook_mostTaken_68 (by decide)) (og_callVi (og_acons (og_aload_n (i := 0) (t := 9) (j := 0) (by rfl) (by rfl) d_Outlook_mostTaken_71) (og_acons (og_aload_n (i := 1) (t := 13) (j := 1) (by rfl) (by rfl) d_Outlook_mostTaken_72) (og_acons (og_bipush (by decide) d_Outlook_mostTaken_73) (og_anil)))) (by decide) ok_Outlook_takenBehind (v_Outlook_takenBehind (by decide)) og_w822 d_Outlook_mostTaken_75) d_Outlook_mostTaken_78 (by decide) (og_iconst (by decide) d_Outlook_mostTaken_81)) (by decide) (by decide) d_Outlook_mostTaken_82) (og_scut (og_sif (T := 91) (F := 109) (og_ccn og_n_gt (og_ile (tgt := 109) (og_iload (i := 7) (j := 7) (by rfl) d_Outlook_mostTaken_84) (og_iload (i := 4) (j := 4) (by rfl) d_Outlook_mostTaken_86) d_Outlook_mostTaken_88 (by decide))) (og_sseq (og_istore (i := 4) (lt' := [(0, 11), (1, 15), (2, 16), (3, 0), (4, 0), (5, 0), (6, 0), (7, 0)]) (og_iload (i := 7) (j := 7) (by rfl) d_Outlook_mostTaken_91) (by decide) (by decide) d_Outlook_mostTaken_93) (og_acopy (n0 := 4) (n1 := 4) (og_f_Outlook_foot (og_aload_n (i := 0) (t := 9) (j := 0) (by rfl) (by rfl) d_Outlook_mostTaken_95) og_w325 d_Outlook_mostTaken_96) (by rfl) (og_iconst (by decide) d_Outlook_mostTaken_99) (og_f_Outlook_worst (og_aload_n (i := 0) (t := 9) (j := 0) (by rfl) (by rfl) d_Outlook_mostTaken_100) og_w326 d_Outlook_mostTaken_101) (by rfl) (og_iconst (by decide) d_Outlook_mostTaken_104) (og_iconst (by decide) d_Outlook_mostTaken_105) (by decide) og_w946 og_w675 og_w674 og_w18 d_Outlook_mostTaken_106)) (og_sskip)) (og_istore (i := 5) (lt' := [(0, 11), (1, 15), (2, 16), (3, 0), (4, 0), (5, 0), (6, 0), (7, 0)]) (og_callVz (og_acons (og_aload_n (i := 0) (t := 9) (j := 0) (by rfl) (by rfl) d_Outlook_mostTaken_109) (og_acons (og_iload_n (i := 3) (j := 3) (by rfl) (by rfl) d_Outlook_mostTaken_110) (og_acons (og_f_Yard_graves_N (og_aload_n (i := 2) (t := 14) (j := 2) (by rfl) (by rfl) d_Outlook_mostTaken_111) og_w46 d_Outlook_mostTaken_112) (og_anil)))) (by decide) ok_Outlook_nextFeet (v_Outlook_nextFeet (by decide)) og_w947 d_Outlook_mostTaken_115) (by decide) (by decide) d_Outlook_mostTaken_118)))) (by decide)) (og_gS (b' := 43) (og_iinc (j := 6) (lt' := [(0, 11), (1, 15), (2, 16), (3, 0), (4, 0), (5, 0), (6, 0)]) (by rfl) (by decide) (by decide) d_Outlook_mostTaken_120) d_Outlook_mostTaken_123 (by decide)))) (by decide)) (og_sreti (og_iload (i := 4) (j := 4) (by rfl) d_Outlook_mostTaken_126) d_Outlook_mostTaken_128))))) (fun h => by cases h)
abbrev og_c_OG_enemy : ByteArray := prog_1_method_18_code
abbrev og_y_OG_enemy : MethodName := ⟨"OpenGraves", "enemy", "(II)I"⟩
theorem v_OG_enemy {own : String} {idx dep : Nat} (h : 8 + 1 ≤ dep) : og_sV own idx og_y_OG_enemy og_c_OG_enemy 4 0 8 dep 1 2 := ⟨⟨0, og_sl_OG, og_T_OG, 17, rfl, by decide, rfl⟩, og_w931, og_w932, og_w1, og_w933, ⟨by decide +kernel, by decide +kernel, by decide +kernel⟩, h, by decide⟩
theorem d_OG_enemy_0 : decode og_c_OG_enemy 0 = .ok (.iload_n 1, 1) := by decide +kernel
theorem d_OG_enemy_1 : decode og_c_OG_enemy 1 = .ok (.iconst 1, 1) := by decide +kernel
theorem d_OG_enemy_2 : decode og_c_OG_enemy 2 = .ok (.if_icmp .lt 34, 3) := by decide +kernel
theorem d_OG_enemy_5 : decode og_c_OG_enemy 5 = .ok (.iload_n 1, 1) := by decide +kernel
theorem d_OG_enemy_6 : decode og_c_OG_enemy 6 = .ok (.iconst 4, 1) := by decide +kernel
theorem d_OG_enemy_7 : decode og_c_OG_enemy 7 = .ok (.if_icmp .gt 29, 3) := by decide +kernel
theorem d_OG_enemy_10 : decode og_c_OG_enemy 10 = .ok (.iload_n 2, 1) := by decide +kernel
theorem d_OG_enemy_11 : decode og_c_OG_enemy 11 = .ok (.iconst (-1), 1) := by decide +kernel
theorem d_OG_enemy_12 : decode og_c_OG_enemy 12 = .ok (.if_icmp .lt 24, 3) := by decide +kernel
theorem d_OG_enemy_15 : decode og_c_OG_enemy 15 = .ok (.iload_n 2, 1) := by decide +kernel
theorem d_OG_enemy_16 : decode og_c_OG_enemy 16 = .ok (.iload_n 1, 1) := by decide +kernel
theorem d_OG_enemy_17 : decode og_c_OG_enemy 17 = .ok (.if_icmp .ge 19, 3) := by decide +kernel
theorem d_OG_enemy_20 : decode og_c_OG_enemy 20 = .ok (.aload_n 0, 1) := by decide +kernel
theorem d_OG_enemy_21 : decode og_c_OG_enemy 21 = .ok (.getfield 90, 3) := by decide +kernel
theorem d_OG_enemy_24 : decode og_c_OG_enemy 24 = .ok (.getfield 148, 3) := by decide +kernel
theorem d_OG_enemy_27 : decode og_c_OG_enemy 27 = .ok (.bipush 12, 2) := by decide +kernel
theorem d_OG_enemy_29 : decode og_c_OG_enemy 29 = .ok (.iadd, 1) := by decide +kernel
theorem d_OG_enemy_30 : decode og_c_OG_enemy 30 = .ok (.sipush 999, 3) := by decide +kernel
theorem d_OG_enemy_33 : decode og_c_OG_enemy 33 = .ok (.if_icmp .le 5, 3) := by decide +kernel
theorem d_OG_enemy_36 : decode og_c_OG_enemy 36 = .ok (.iconst (-1), 1) := by decide +kernel
theorem d_OG_enemy_37 : decode og_c_OG_enemy 37 = .ok (.ireturn, 1) := by decide +kernel
theorem d_OG_enemy_38 : decode og_c_OG_enemy 38 = .ok (.aload_n 0, 1) := by decide +kernel
theorem d_OG_enemy_39 : decode og_c_OG_enemy 39 = .ok (.getfield 69, 3) := by decide +kernel
theorem d_OG_enemy_42 : decode og_c_OG_enemy 42 = .ok (.aload_n 0, 1) := by decide +kernel
theorem d_OG_enemy_43 : decode og_c_OG_enemy 43 = .ok (.getfield 10, 3) := by decide +kernel
theorem d_OG_enemy_46 : decode og_c_OG_enemy 46 = .ok (.getfield 37, 3) := by decide +kernel
theorem d_OG_enemy_49 : decode og_c_OG_enemy 49 = .ok (.aload_n 0, 1) := by decide +kernel
theorem d_OG_enemy_50 : decode og_c_OG_enemy 50 = .ok (.getfield 90, 3) := by decide +kernel
theorem d_OG_enemy_53 : decode og_c_OG_enemy 53 = .ok (.iload_n 1, 1) := by decide +kernel
theorem d_OG_enemy_54 : decode og_c_OG_enemy 54 = .ok (.invokevirtual 257, 3) := by decide +kernel
theorem d_OG_enemy_57 : decode og_c_OG_enemy 57 = .ok (.istore_n 3, 1) := by decide +kernel
theorem d_OG_enemy_58 : decode og_c_OG_enemy 58 = .ok (.iload_n 3, 1) := by decide +kernel
theorem d_OG_enemy_59 : decode og_c_OG_enemy 59 = .ok (.iconst (-1), 1) := by decide +kernel
theorem d_OG_enemy_60 : decode og_c_OG_enemy 60 = .ok (.if_icmp .eq 8, 3) := by decide +kernel
theorem d_OG_enemy_63 : decode og_c_OG_enemy 63 = .ok (.iload_n 2, 1) := by decide +kernel
theorem d_OG_enemy_64 : decode og_c_OG_enemy 64 = .ok (.iconst (-1), 1) := by decide +kernel
theorem d_OG_enemy_65 : decode og_c_OG_enemy 65 = .ok (.if_icmp .ne 5, 3) := by decide +kernel
theorem d_OG_enemy_68 : decode og_c_OG_enemy 68 = .ok (.iload_n 3, 1) := by decide +kernel
theorem d_OG_enemy_69 : decode og_c_OG_enemy 69 = .ok (.ireturn, 1) := by decide +kernel
theorem d_OG_enemy_70 : decode og_c_OG_enemy 70 = .ok (.aload_n 0, 1) := by decide +kernel
theorem d_OG_enemy_71 : decode og_c_OG_enemy 71 = .ok (.getfield 69, 3) := by decide +kernel
theorem d_OG_enemy_74 : decode og_c_OG_enemy 74 = .ok (.getfield 260, 3) := by decide +kernel
theorem d_OG_enemy_77 : decode og_c_OG_enemy 77 = .ok (.iload_n 2, 1) := by decide +kernel
theorem d_OG_enemy_78 : decode og_c_OG_enemy 78 = .ok (.iaload, 1) := by decide +kernel
theorem d_OG_enemy_79 : decode og_c_OG_enemy 79 = .ok (.ireturn, 1) := by decide +kernel
def m_OG_enemy : og_Dn := og_den [5, 0, 0] 4 0 (og_seq (og_if (og_or (og_or (og_or (og_or (og_cc og_rlt (og_loc 1) (og_k 1)) (og_cc og_rgt (og_loc 1) (og_k 4))) (og_cc og_rlt (og_loc 2) (og_k (-1)))) (og_cc og_rge (og_loc 2) (og_loc 1))) (og_cc og_rgt (og_add (og_get 2 (og_fix (fun _ => 100) (og_loc 0))) (og_k 12)) (og_k 999))) (og_ret (og_k (-1))) (og_skip)) (og_seq (og_set 3 (og_call m_Outlook_mostTaken [og_fix (fun _ => 10) (og_loc 0), og_fix (fun i => i + 2) (og_get 15 (og_loc 0)), og_fix (fun _ => 100) (og_loc 0), og_loc 1])) (og_seq (og_if (og_or (og_cc og_req (og_loc 3) (og_k (-1))) (og_cc og_req (og_loc 2) (og_k (-1)))) (og_ret (og_loc 3)) (og_skip)) (og_ret (og_ald 4 (og_fix (fun _ => 13) (og_fix (fun _ => 10) (og_loc 0))) (og_loc 2))))))
set_option maxRecDepth 20000 in
theorem ok_OG_enemy : og_MOK og_y_OG_enemy og_c_OG_enemy 4 0 8 [5, 0, 0] m_OG_enemy := og_method (b := 0) (lt' := []) (by decide +kernel) (by decide) (by decide) (og_sseq (og_sif (T := 36) (F := 38) (og_cor (og_cor (og_cor (og_cor (og_ilt (tgt := 36) (og_iload_n (i := 1) (j := 1) (by rfl) (by rfl) d_OG_enemy_0) (og_iconst (by decide) d_OG_enemy_1) d_OG_enemy_2 (by decide)) (og_igt (tgt := 36) (og_iload_n (i := 1) (j := 1) (by rfl) (by rfl) d_OG_enemy_5) (og_iconst (by decide) d_OG_enemy_6) d_OG_enemy_7 (by decide))) (og_ilt (tgt := 36) (og_iload_n (i := 2) (j := 2) (by rfl) (by rfl) d_OG_enemy_10) (og_iconst (by decide) d_OG_enemy_11) d_OG_enemy_12 (by decide))) (og_ige (tgt := 36) (og_iload_n (i := 2) (j := 2) (by rfl) (by rfl) d_OG_enemy_15) (og_iload_n (i := 1) (j := 1) (by rfl) (by rfl) d_OG_enemy_16) d_OG_enemy_17 (by decide))) (og_ccn og_n_gt (og_ile (tgt := 38) (og_iadd (og_f_Yard_month_N (og_f_OG_now (og_aload_n (i := 0) (t := 3) (j := 0) (by rfl) (by rfl) d_OG_enemy_20) og_w397 d_OG_enemy_21) og_w58 d_OG_enemy_24) (og_bipush (by decide) d_OG_enemy_27) d_OG_enemy_29) (og_sipush (by decide) d_OG_enemy_30) d_OG_enemy_33 (by decide)))) (og_sreti (og_iconst (by decide) d_OG_enemy_36) d_OG_enemy_37) (og_sskip)) (og_sseq (og_istore_n (i := 3) (lt' := [(0, 5), (1, 0), (2, 0), (3, 0)]) (og_callVi (og_acons (og_f_OG_outlook (og_aload_n (i := 0) (t := 3) (j := 0) (by rfl) (by rfl) d_OG_enemy_38) og_w394 d_OG_enemy_39) (og_acons (og_f_Parish_rules_N (og_f_OG_told (og_aload_n (i := 0) (t := 3) (j := 0) (by rfl) (by rfl) d_OG_enemy_42) og_w404 d_OG_enemy_43) og_w150 d_OG_enemy_46) (og_acons (og_f_OG_now (og_aload_n (i := 0) (t := 3) (j := 0) (by rfl) (by rfl) d_OG_enemy_49) og_w397 d_OG_enemy_50) (og_acons (og_iload_n (i := 1) (j := 1) (by rfl) (by rfl) d_OG_enemy_53) (og_anil))))) (by decide) ok_Outlook_mostTaken (v_Outlook_mostTaken (by decide)) og_w934 d_OG_enemy_54) (by rfl) (by decide) (by decide) d_OG_enemy_57) (og_sseq (og_sif (T := 68) (F := 70) (og_cor (og_ieq (tgt := 68) (og_iload_n (i := 3) (j := 3) (by rfl) (by rfl) d_OG_enemy_58) (og_iconst (by decide) d_OG_enemy_59) d_OG_enemy_60 (by decide)) (og_ccn og_n_eq (og_ine (tgt := 70) (og_iload_n (i := 2) (j := 2) (by rfl) (by rfl) d_OG_enemy_63) (og_iconst (by decide) d_OG_enemy_64) d_OG_enemy_65 (by decide)))) (og_sreti (og_iload_n (i := 3) (j := 3) (by rfl) (by rfl) d_OG_enemy_68) d_OG_enemy_69) (og_sskip)) (og_sreti (og_iald (N := 4) (og_f_Outlook_worst_N (og_f_OG_outlook (og_aload_n (i := 0) (t := 3) (j := 0) (by rfl) (by rfl) d_OG_enemy_70) og_w394 d_OG_enemy_71) og_w327 d_OG_enemy_74) (by rfl) (og_iload_n (i := 2) (j := 2) (by rfl) (by rfl) d_OG_enemy_77) d_OG_enemy_78) d_OG_enemy_79)))) (fun h => by cases h)
abbrev og_c_Outlook_drawsOf : ByteArray := prog_4_method_10_code
abbrev og_y_Outlook_drawsOf : MethodName := ⟨"OpenGraves$Outlook", "drawsOf", "(LOpenGraves$Yard;I)J"⟩
theorem v_Outlook_drawsOf {own : String} {idx dep : Nat} (h : 3 + 1 ≤ dep) : og_sV own idx og_y_Outlook_drawsOf og_c_Outlook_drawsOf 6 1 3 dep 7 2 := ⟨⟨6, og_sl_Outlook, og_T_Outlook, 9, rfl, by decide, rfl⟩, og_w963, (og_memP (⟨"OpenGraves$Outlook", "drawsOf", "(LOpenGraves$Yard;I)J"⟩, 9) (List.mem_of_getElem? (i := 39) (by decide +kernel))), og_w14, og_w964, ⟨by decide +kernel, by decide +kernel, by decide +kernel⟩, h, by decide⟩
theorem d_Outlook_drawsOf_0 : decode og_c_Outlook_drawsOf 0 = .ok (.lconst 1, 1) := by decide +kernel
theorem d_Outlook_drawsOf_1 : decode og_c_Outlook_drawsOf 1 = .ok (.lstore_n 3, 1) := by decide +kernel
theorem d_Outlook_drawsOf_2 : decode og_c_Outlook_drawsOf 2 = .ok (.iconst 0, 1) := by decide +kernel
theorem d_Outlook_drawsOf_3 : decode og_c_Outlook_drawsOf 3 = .ok (.istore 5, 2) := by decide +kernel
theorem d_Outlook_drawsOf_5 : decode og_c_Outlook_drawsOf 5 = .ok (.iload 5, 2) := by decide +kernel
theorem d_Outlook_drawsOf_7 : decode og_c_Outlook_drawsOf 7 = .ok (.aload_n 1, 1) := by decide +kernel
theorem d_Outlook_drawsOf_8 : decode og_c_Outlook_drawsOf 8 = .ok (.getfield 105, 3) := by decide +kernel
theorem d_Outlook_drawsOf_11 : decode og_c_Outlook_drawsOf 11 = .ok (.if_icmp .ge 53, 3) := by decide +kernel
theorem d_Outlook_drawsOf_14 : decode og_c_Outlook_drawsOf 14 = .ok (.aload_n 1, 1) := by decide +kernel
theorem d_Outlook_drawsOf_15 : decode og_c_Outlook_drawsOf 15 = .ok (.iload 5, 2) := by decide +kernel
theorem d_Outlook_drawsOf_17 : decode og_c_Outlook_drawsOf 17 = .ok (.invokevirtual 108, 3) := by decide +kernel
theorem d_Outlook_drawsOf_20 : decode og_c_Outlook_drawsOf 20 = .ok (.ifCond .eq 38, 3) := by decide +kernel
theorem d_Outlook_drawsOf_23 : decode og_c_Outlook_drawsOf 23 = .ok (.lload_n 3, 1) := by decide +kernel
theorem d_Outlook_drawsOf_24 : decode og_c_Outlook_drawsOf 24 = .ok (.iload_n 2, 1) := by decide +kernel
theorem d_Outlook_drawsOf_25 : decode og_c_Outlook_drawsOf 25 = .ok (.iload 5, 2) := by decide +kernel
theorem d_Outlook_drawsOf_27 : decode og_c_Outlook_drawsOf 27 = .ok (.ishr, 1) := by decide +kernel
theorem d_Outlook_drawsOf_28 : decode og_c_Outlook_drawsOf 28 = .ok (.iconst 1, 1) := by decide +kernel
theorem d_Outlook_drawsOf_29 : decode og_c_Outlook_drawsOf 29 = .ok (.iand, 1) := by decide +kernel
theorem d_Outlook_drawsOf_30 : decode og_c_Outlook_drawsOf 30 = .ok (.iconst 1, 1) := by decide +kernel
theorem d_Outlook_drawsOf_31 : decode og_c_Outlook_drawsOf 31 = .ok (.if_icmp .ne 14, 3) := by decide +kernel
theorem d_Outlook_drawsOf_34 : decode og_c_Outlook_drawsOf 34 = .ok (.aload_n 0, 1) := by decide +kernel
theorem d_Outlook_drawsOf_35 : decode og_c_Outlook_drawsOf 35 = .ok (.getfield 36, 3) := by decide +kernel
theorem d_Outlook_drawsOf_38 : decode og_c_Outlook_drawsOf 38 = .ok (.iload 5, 2) := by decide +kernel
theorem d_Outlook_drawsOf_40 : decode og_c_Outlook_drawsOf 40 = .ok (.iaload, 1) := by decide +kernel
theorem d_Outlook_drawsOf_41 : decode og_c_Outlook_drawsOf 41 = .ok (.i2l, 1) := by decide +kernel
theorem d_Outlook_drawsOf_42 : decode og_c_Outlook_drawsOf 42 = .ok (.goto 14, 3) := by decide +kernel
theorem d_Outlook_drawsOf_45 : decode og_c_Outlook_drawsOf 45 = .ok (.bipush 100, 2) := by decide +kernel
theorem d_Outlook_drawsOf_47 : decode og_c_Outlook_drawsOf 47 = .ok (.aload_n 0, 1) := by decide +kernel
theorem d_Outlook_drawsOf_48 : decode og_c_Outlook_drawsOf 48 = .ok (.getfield 36, 3) := by decide +kernel
theorem d_Outlook_drawsOf_51 : decode og_c_Outlook_drawsOf 51 = .ok (.iload 5, 2) := by decide +kernel
theorem d_Outlook_drawsOf_53 : decode og_c_Outlook_drawsOf 53 = .ok (.iaload, 1) := by decide +kernel
theorem d_Outlook_drawsOf_54 : decode og_c_Outlook_drawsOf 54 = .ok (.isub, 1) := by decide +kernel
theorem d_Outlook_drawsOf_55 : decode og_c_Outlook_drawsOf 55 = .ok (.i2l, 1) := by decide +kernel
theorem d_Outlook_drawsOf_56 : decode og_c_Outlook_drawsOf 56 = .ok (.lmul, 1) := by decide +kernel
theorem d_Outlook_drawsOf_57 : decode og_c_Outlook_drawsOf 57 = .ok (.lstore_n 3, 1) := by decide +kernel
theorem d_Outlook_drawsOf_58 : decode og_c_Outlook_drawsOf 58 = .ok (.iinc 5 1, 3) := by decide +kernel
theorem d_Outlook_drawsOf_61 : decode og_c_Outlook_drawsOf 61 = .ok (.goto (-56), 3) := by decide +kernel
theorem d_Outlook_drawsOf_64 : decode og_c_Outlook_drawsOf 64 = .ok (.lload_n 3, 1) := by decide +kernel
theorem d_Outlook_drawsOf_65 : decode og_c_Outlook_drawsOf 65 = .ok (.lreturn, 1) := by decide +kernel
def m_Outlook_drawsOf : og_Dn := og_den [11, 16, 0] 6 1 (og_seq (og_set 3 (og_k 1)) (og_cut (og_seq (og_set 5 (og_k 0)) (og_while (og_cc og_rlt (og_loc 5) (og_get 1 (og_loc 1))) (og_if (og_cb (og_call m_Yard_lives [og_loc 1, og_loc 5])) (og_set 3 (og_lmul (og_loc 3) (og_ei (og_cc og_req (og_bop og_oand (og_bop og_oshr (og_loc 2) (og_loc 5)) (og_k 1)) (og_k 1)) (og_i2l (og_ald 8 (og_fix (fun _ => 14) (og_loc 0)) (og_loc 5))) (og_i2l (og_sub (og_k 100) (og_ald 8 (og_fix (fun _ => 14) (og_loc 0)) (og_loc 5))))))) (og_skip)) (og_inc 5 1))) (og_ret (og_loc 3))))
set_option maxRecDepth 20000 in
theorem ok_Outlook_drawsOf : og_MOK og_y_Outlook_drawsOf og_c_Outlook_drawsOf 6 1 3 [11, 16, 0] m_Outlook_drawsOf := og_method (b := 0) (lt' := []) (by decide +kernel) (by decide) (by decide) (og_sseq (og_lstore_n (i := 3) (lt' := [(0, 11), (1, 16), (2, 0), (3, 1)]) (og_lconst (x := 1) d_Outlook_drawsOf_0) (by rfl) (by decide) (by decide) d_Outlook_drawsOf_1) (og_scut (og_sdrop (lt' := [(0, 11), (1, 16), (2, 0), (3, 1), (5, 0)]) (lt2 := [(0, 11), (1, 16), (2, 0), (3, 1)]) (og_sseq (og_istore (i := 5) (lt' := [(0, 11), (1, 16), (2, 0), (3, 1), (5, 0)]) (og_iconst (by decide) d_Outlook_drawsOf_2) (by decide) (by decide) d_Outlook_drawsOf_3) (og_swhile (T := 14) (F := 64) (cp0 := 58) (og_ccn og_n_lt (og_ige (tgt := 64) (og_iload (i := 5) (j := 4) (by rfl) d_Outlook_drawsOf_5) (og_f_Yard_people_N (og_aload_n (i := 1) (t := 14) (j := 1) (by rfl) (by rfl) d_Outlook_drawsOf_7) og_w53 d_Outlook_drawsOf_8) d_Outlook_drawsOf_11 (by decide))) (og_sif (T := 23) (F := 58) (og_cbeq (tgt := 58) (og_callVz (og_acons (og_aload_n (i := 1) (t := 14) (j := 1) (by rfl) (by rfl) d_Outlook_drawsOf_14) (og_acons (og_iload (i := 5) (j := 4) (by rfl) d_Outlook_drawsOf_15) (og_anil))) (by decide) ok_Yard_lives (v_Yard_lives (by decide)) og_w959 d_Outlook_drawsOf_17) d_Outlook_drawsOf_20 (by decide)) (og_lstore_n (i := 3) (lt' := [(0, 11), (1, 16), (2, 0), (3, 1), (5, 0)]) (og_lmul_ (og_lload_n (i := 3) (j := 3) (by rfl) (by rfl) d_Outlook_drawsOf_23) (og_eite (og_ccn og_n_eq (og_ine (tgt := 45) (og_iand (og_ishr (og_iload_n (i := 2) (j := 2) (by rfl) (by rfl) d_Outlook_drawsOf_24) (og_iload (i := 5) (j := 4) (by rfl) d_Outlook_drawsOf_25) d_Outlook_drawsOf_27) (og_iconst (by decide) d_Outlook_drawsOf_28) d_Outlook_drawsOf_29) (og_iconst (by decide) d_Outlook_drawsOf_30) d_Outlook_drawsOf_31 (by decide))) (og_i2l_ (og_iald (N := 8) (og_f_Outlook_deaths (og_aload_n (i := 0) (t := 9) (j := 0) (by rfl) (by rfl) d_Outlook_drawsOf_34) og_w328 d_Outlook_drawsOf_35) (by rfl) (og_iload (i := 5) (j := 4) (by rfl) d_Outlook_drawsOf_38) d_Outlook_drawsOf_40) d_Outlook_drawsOf_41) d_Outlook_drawsOf_42 (by decide) (og_i2l_ (og_isub (og_bipush (by decide) d_Outlook_drawsOf_45) (og_iald (N := 8) (og_f_Outlook_deaths (og_aload_n (i := 0) (t := 9) (j := 0) (by rfl) (by rfl) d_Outlook_drawsOf_47) og_w328 d_Outlook_drawsOf_48) (by rfl) (og_iload (i := 5) (j := 4) (by rfl) d_Outlook_drawsOf_51) d_Outlook_drawsOf_53) d_Outlook_drawsOf_54) d_Outlook_drawsOf_55)) d_Outlook_drawsOf_56) (by rfl) (by decide) (by decide) d_Outlook_drawsOf_57) (og_sskip)) (og_gS (b' := 5) (og_iinc (j := 4) (lt' := [(0, 11), (1, 16), (2, 0), (3, 1), (5, 0)]) (by rfl) (by decide) (by decide) d_Outlook_drawsOf_58) d_Outlook_drawsOf_61 (by decide)))) (by decide)) (og_sretl (og_lload_n (i := 3) (j := 3) (by rfl) (by rfl) d_Outlook_drawsOf_64) d_Outlook_drawsOf_65))) (fun h => by cases h)
abbrev og_c_Outlook_isFilledBy : ByteArray := prog_4_method_11_code
abbrev og_y_Outlook_isFilledBy : MethodName := ⟨"OpenGraves$Outlook", "isFilledBy", "(LOpenGraves$Script;LOpenGraves$Yard;II)Z"⟩
theorem v_Outlook_isFilledBy {own : String} {idx dep : Nat} (h : 6 + 1 ≤ dep) : og_sV own idx og_y_Outlook_isFilledBy og_c_Outlook_isFilledBy 6 3 6 dep 7 4 := ⟨⟨6, og_sl_Outlook, og_T_Outlook, 9, rfl, by decide, rfl⟩, og_w967, (og_memP (⟨"OpenGraves$Outlook", "isFilledBy", "(LOpenGraves$Script;LOpenGraves$Yard;II)Z"⟩, 9) (List.mem_of_getElem? (i := 40) (by decide +kernel))), og_w14, og_w968, ⟨by decide +kernel, by decide +kernel, by decide +kernel⟩, h, by decide⟩
theorem d_Outlook_isFilledBy_0 : decode og_c_Outlook_isFilledBy 0 = .ok (.aload_n 0, 1) := by decide +kernel
theorem d_Outlook_isFilledBy_1 : decode og_c_Outlook_isFilledBy 1 = .ok (.getfield 22, 3) := by decide +kernel
theorem d_Outlook_isFilledBy_4 : decode og_c_Outlook_isFilledBy 4 = .ok (.aload_n 2, 1) := by decide +kernel
theorem d_Outlook_isFilledBy_5 : decode og_c_Outlook_isFilledBy 5 = .ok (.invokevirtual 42, 3) := by decide +kernel
theorem d_Outlook_isFilledBy_8 : decode og_c_Outlook_isFilledBy 8 = .ok (.iconst 0, 1) := by decide +kernel
theorem d_Outlook_isFilledBy_9 : decode og_c_Outlook_isFilledBy 9 = .ok (.istore 5, 2) := by decide +kernel
theorem d_Outlook_isFilledBy_11 : decode og_c_Outlook_isFilledBy 11 = .ok (.iload 5, 2) := by decide +kernel
theorem d_Outlook_isFilledBy_13 : decode og_c_Outlook_isFilledBy 13 = .ok (.aload_n 2, 1) := by decide +kernel
theorem d_Outlook_isFilledBy_14 : decode og_c_Outlook_isFilledBy 14 = .ok (.getfield 105, 3) := by decide +kernel
theorem d_Outlook_isFilledBy_17 : decode og_c_Outlook_isFilledBy 17 = .ok (.if_icmp .ge 38, 3) := by decide +kernel
theorem d_Outlook_isFilledBy_20 : decode og_c_Outlook_isFilledBy 20 = .ok (.iload_n 3, 1) := by decide +kernel
theorem d_Outlook_isFilledBy_21 : decode og_c_Outlook_isFilledBy 21 = .ok (.iload 5, 2) := by decide +kernel
theorem d_Outlook_isFilledBy_23 : decode og_c_Outlook_isFilledBy 23 = .ok (.ishr, 1) := by decide +kernel
theorem d_Outlook_isFilledBy_24 : decode og_c_Outlook_isFilledBy 24 = .ok (.iconst 1, 1) := by decide +kernel
theorem d_Outlook_isFilledBy_25 : decode og_c_Outlook_isFilledBy 25 = .ok (.iand, 1) := by decide +kernel
theorem d_Outlook_isFilledBy_26 : decode og_c_Outlook_isFilledBy 26 = .ok (.iconst 1, 1) := by decide +kernel
theorem d_Outlook_isFilledBy_27 : decode og_c_Outlook_isFilledBy 27 = .ok (.if_icmp .ne 22, 3) := by decide +kernel
theorem d_Outlook_isFilledBy_30 : decode og_c_Outlook_isFilledBy 30 = .ok (.aload_n 0, 1) := by decide +kernel
theorem d_Outlook_isFilledBy_31 : decode og_c_Outlook_isFilledBy 31 = .ok (.getfield 22, 3) := by decide +kernel
theorem d_Outlook_isFilledBy_34 : decode og_c_Outlook_isFilledBy 34 = .ok (.iload 5, 2) := by decide +kernel
theorem d_Outlook_isFilledBy_36 : decode og_c_Outlook_isFilledBy 36 = .ok (.aload_n 0, 1) := by decide +kernel
theorem d_Outlook_isFilledBy_37 : decode og_c_Outlook_isFilledBy 37 = .ok (.getfield 22, 3) := by decide +kernel
theorem d_Outlook_isFilledBy_40 : decode og_c_Outlook_isFilledBy 40 = .ok (.iload 5, 2) := by decide +kernel
theorem d_Outlook_isFilledBy_42 : decode og_c_Outlook_isFilledBy 42 = .ok (.invokevirtual 122, 3) := by decide +kernel
theorem d_Outlook_isFilledBy_45 : decode og_c_Outlook_isFilledBy 45 = .ok (.iconst 2, 1) := by decide +kernel
theorem d_Outlook_isFilledBy_46 : decode og_c_Outlook_isFilledBy 46 = .ok (.invokevirtual 126, 3) := by decide +kernel
theorem d_Outlook_isFilledBy_49 : decode og_c_Outlook_isFilledBy 49 = .ok (.iinc 5 1, 3) := by decide +kernel
theorem d_Outlook_isFilledBy_52 : decode og_c_Outlook_isFilledBy 52 = .ok (.goto (-41), 3) := by decide +kernel
theorem d_Outlook_isFilledBy_55 : decode og_c_Outlook_isFilledBy 55 = .ok (.aload_n 0, 1) := by decide +kernel
theorem d_Outlook_isFilledBy_56 : decode og_c_Outlook_isFilledBy 56 = .ok (.getfield 9, 3) := by decide +kernel
theorem d_Outlook_isFilledBy_59 : decode og_c_Outlook_isFilledBy 59 = .ok (.aload_n 1, 1) := by decide +kernel
theorem d_Outlook_isFilledBy_60 : decode og_c_Outlook_isFilledBy 60 = .ok (.aload_n 0, 1) := by decide +kernel
theorem d_Outlook_isFilledBy_61 : decode og_c_Outlook_isFilledBy 61 = .ok (.getfield 22, 3) := by decide +kernel
theorem d_Outlook_isFilledBy_64 : decode og_c_Outlook_isFilledBy 64 = .ok (.invokevirtual 54, 3) := by decide +kernel
theorem d_Outlook_isFilledBy_67 : decode og_c_Outlook_isFilledBy 67 = .ok (.pop, 1) := by decide +kernel
theorem d_Outlook_isFilledBy_68 : decode og_c_Outlook_isFilledBy 68 = .ok (.aload_n 0, 1) := by decide +kernel
theorem d_Outlook_isFilledBy_69 : decode og_c_Outlook_isFilledBy 69 = .ok (.getfield 22, 3) := by decide +kernel
theorem d_Outlook_isFilledBy_72 : decode og_c_Outlook_isFilledBy 72 = .ok (.iload 4, 2) := by decide +kernel
theorem d_Outlook_isFilledBy_74 : decode og_c_Outlook_isFilledBy 74 = .ok (.invokevirtual 70, 3) := by decide +kernel
theorem d_Outlook_isFilledBy_77 : decode og_c_Outlook_isFilledBy 77 = .ok (.ireturn, 1) := by decide +kernel
def m_Outlook_isFilledBy : og_Dn := og_den [11, 15, 16, 0, 0] 6 3 (og_seq (og_exp (og_call m_Yard_become [og_fix (fun _ => 110) (og_loc 0), og_loc 2])) (og_cut (og_seq (og_set 5 (og_k 0)) (og_while (og_cc og_rlt (og_loc 5) (og_get 1 (og_loc 2))) (og_if (og_cc og_req (og_bop og_oand (og_bop og_oshr (og_loc 3) (og_loc 5)) (og_k 1)) (og_k 1)) (og_exp (og_call m_Yard_bury [og_fix (fun _ => 110) (og_loc 0), og_loc 5, og_call m_Yard_nextGrave [og_fix (fun _ => 110) (og_loc 0), og_loc 5], og_k 2])) (og_skip)) (og_inc 5 1))) (og_seq (og_exp (og_call m_Almanac_pass [og_fix (fun _ => 8) (og_loc 0), og_loc 1, og_fix (fun _ => 110) (og_loc 0)])) (og_retz (og_call m_Yard_isFilled [og_fix (fun _ => 110) (og_loc 0), og_loc 4])))))
set_option maxRecDepth 20000 in
theorem ok_Outlook_isFilledBy : og_MOK og_y_Outlook_isFilledBy og_c_Outlook_isFilledBy 6 3 6 [11, 15, 16, 0, 0] m_Outlook_isFilledBy := og_method (b := 0) (lt' := []) (by decide +kernel) (by decide) (by decide) (og_sseq (og_callVv (og_acons (og_f_Outlook_trial (og_aload_n (i := 0) (t := 9) (j := 0) (by rfl) (by rfl) d_Outlook_isFilledBy_0) og_w319 d_Outlook_isFilledBy_1) (og_acons (og_aload_n (i := 2) (t := 14) (j := 2) (by rfl) (by rfl) d_Outlook_isFilledBy_4) (og_anil))) ok_Yard_become (v_Yard_become (by decide)) og_w821 d_Outlook_isFilledBy_5) (og_scut (og_sdrop (lt' := [(0, 11), (1, 15), (2, 16), (3, 0), (4, 0), (5, 0)]) (lt2 := [(0, 11), (1, 15), (2, 16), (3, 0), (4, 0)]) (og_sseq (og_istore (i := 5) (lt' := [(0, 11), (1, 15), (2, 16), (3, 0), (4, 0), (5, 0)]) (og_iconst (by decide) d_Outlook_isFilledBy_8) (by decide) (by decide) d_Outlook_isFilledBy_9) (og_swhile (T := 20) (F := 55) (cp0 := 49) (og_ccn og_n_lt (og_ige (tgt := 55) (og_iload (i := 5) (j := 5) (by rfl) d_Outlook_isFilledBy_11) (og_f_Yard_people_N (og_aload_n (i := 2) (t := 14) (j := 2) (by rfl) (by rfl) d_Outlook_isFilledBy_13) og_w53 d_Outlook_isFilledBy_14) d_Outlook_isFilledBy_17 (by decide))) (og_sif (T := 30) (F := 49) (og_ccn og_n_eq (og_ine (tgt := 49) (og_iand (og_ishr (og_iload_n (i := 3) (j := 3) (by rfl) (by rfl) d_Outlook_isFilledBy_20) (og_iload (i := 5) (j := 5) (by rfl) d_Outlook_isFilledBy_21) d_Outlook_isFilledBy_23) (og_iconst (by decide) d_Outlook_isFilledBy_24) d_Outlook_isFilledBy_25) (og_iconst (by decide) d_Outlook_isFilledBy_26) d_Outlook_isFilledBy_27 (by decide))) (og_callVv (og_acons (og_f_Outlook_trial (og_aload_n (i := 0) (t := 9) (j := 0) (by rfl) (by rfl) d_Outlook_isFilledBy_30) og_w319 d_Outlook_isFilledBy_31) (og_acons (og_iload (i := 5) (j := 5) (by rfl) d_Outlook_isFilledBy_34) (og_acons (og_callVi (og_acons (og_f_Outlook_trial (og_aload_n (i := 0) (t := 9) (j := 0) (by rfl) (by rfl) d_Outlook_isFilledBy_36) og_w319 d_Outlook_isFilledBy_37) (og_acons (og_iload (i := 5) (j := 5) (by rfl) d_Outlook_isFilledBy_40) (og_anil))) (by decide) ok_Yard_nextGrave (v_Yard_nextGrave (by decide)) og_w969 d_Outlook_isFilledBy_42) (og_acons (og_iconst (by decide) d_Outlook_isFilledBy_45) (og_anil))))) ok_Yard_bury (v_Yard_bury (by decide)) og_w970 d_Outlook_isFilledBy_46) (og_sskip)) (og_gS (b' := 11) (og_iinc (j := 5) (lt' := [(0, 11), (1, 15), (2, 16), (3, 0), (4, 0), (5, 0)]) (by rfl) (by decide) (by decide) d_Outlook_isFilledBy_49) d_Outlook_isFilledBy_52 (by decide)))) (by decide)) (og_sseq (og_spop (og_callVi (og_acons (og_f_Outlook_almanac (og_aload_n (i := 0) (t := 9) (j := 0) (by rfl) (by rfl) d_Outlook_isFilledBy_55) og_w317 d_Outlook_isFilledBy_56) (og_acons (og_aload_n (i := 1) (t := 13) (j := 1) (by rfl) (by rfl) d_Outlook_isFilledBy_59) (og_acons (og_f_Outlook_trial (og_aload_n (i := 0) (t := 9) (j := 0) (by rfl) (by rfl) d_Outlook_isFilledBy_60) og_w319 d_Outlook_isFilledBy_61) (og_anil)))) (by decide) ok_Almanac_pass (v_Almanac_pass (by decide)) og_w827 d_Outlook_isFilledBy_64) d_Outlook_isFilledBy_67) (og_sretz (og_callVz (og_acons (og_f_Outlook_trial (og_aload_n (i := 0) (t := 9) (j := 0) (by rfl) (by rfl) d_Outlook_isFilledBy_68) og_w319 d_Outlook_isFilledBy_69) (og_acons (og_iload (i := 4) (j := 4) (by rfl) d_Outlook_isFilledBy_72) (og_anil))) (by decide) ok_Yard_isFilled (v_Yard_isFilled (by decide)) og_w880 d_Outlook_isFilledBy_74) d_Outlook_isFilledBy_77)))) (fun h => by cases h)
abbrev og_c_Outlook_drawsThatFill : ByteArray := prog_4_method_9_code
abbrev og_y_Outlook_drawsThatFill : MethodName := ⟨"OpenGraves$Outlook", "drawsThatFill", "(LOpenGraves$Script;LOpenGraves$Yard;I)J"⟩
theorem v_Outlook_drawsThatFill {own : String} {idx dep : Nat} (h : 7 + 1 ≤ dep) : og_sV own idx og_y_Outlook_drawsThatFill og_c_Outlook_drawsThatFill 10 1 7 dep 7 3 := ⟨⟨6, og_sl_Outlook, og_T_Outlook, 9, rfl, by decide, rfl⟩, og_w956, og_w957, og_w14, og_w958, ⟨by decide +kernel, by decide +kernel, by decide +kernel⟩, h, by decide⟩
theorem d_Outlook_drawsThatFill_0 : decode og_c_Outlook_drawsThatFill 0 = .ok (.iconst 0, 1) := by decide +kernel
theorem d_Outlook_drawsThatFill_1 : decode og_c_Outlook_drawsThatFill 1 = .ok (.istore 4, 2) := by decide +kernel
theorem d_Outlook_drawsThatFill_3 : decode og_c_Outlook_drawsThatFill 3 = .ok (.iconst 0, 1) := by decide +kernel
theorem d_Outlook_drawsThatFill_4 : decode og_c_Outlook_drawsThatFill 4 = .ok (.istore 5, 2) := by decide +kernel
theorem d_Outlook_drawsThatFill_6 : decode og_c_Outlook_drawsThatFill 6 = .ok (.iload 5, 2) := by decide +kernel
theorem d_Outlook_drawsThatFill_8 : decode og_c_Outlook_drawsThatFill 8 = .ok (.aload_n 2, 1) := by decide +kernel
theorem d_Outlook_drawsThatFill_9 : decode og_c_Outlook_drawsThatFill 9 = .ok (.getfield 105, 3) := by decide +kernel
theorem d_Outlook_drawsThatFill_12 : decode og_c_Outlook_drawsThatFill 12 = .ok (.if_icmp .ge 53, 3) := by decide +kernel
theorem d_Outlook_drawsThatFill_15 : decode og_c_Outlook_drawsThatFill 15 = .ok (.aload_n 2, 1) := by decide +kernel
theorem d_Outlook_drawsThatFill_16 : decode og_c_Outlook_drawsThatFill 16 = .ok (.iload 5, 2) := by decide +kernel
theorem d_Outlook_drawsThatFill_18 : decode og_c_Outlook_drawsThatFill 18 = .ok (.invokevirtual 108, 3) := by decide +kernel
theorem d_Outlook_drawsThatFill_21 : decode og_c_Outlook_drawsThatFill 21 = .ok (.ifCond .eq 38, 3) := by decide +kernel
theorem d_Outlook_drawsThatFill_24 : decode og_c_Outlook_drawsThatFill 24 = .ok (.iload 4, 2) := by decide +kernel
theorem d_Outlook_drawsThatFill_26 : decode og_c_Outlook_drawsThatFill 26 = .ok (.iconst 1, 1) := by decide +kernel
theorem d_Outlook_drawsThatFill_27 : decode og_c_Outlook_drawsThatFill 27 = .ok (.iload 5, 2) := by decide +kernel
theorem d_Outlook_drawsThatFill_29 : decode og_c_Outlook_drawsThatFill 29 = .ok (.ishl, 1) := by decide +kernel
theorem d_Outlook_drawsThatFill_30 : decode og_c_Outlook_drawsThatFill 30 = .ok (.ior, 1) := by decide +kernel
theorem d_Outlook_drawsThatFill_31 : decode og_c_Outlook_drawsThatFill 31 = .ok (.istore 4, 2) := by decide +kernel
theorem d_Outlook_drawsThatFill_33 : decode og_c_Outlook_drawsThatFill 33 = .ok (.aload_n 0, 1) := by decide +kernel
theorem d_Outlook_drawsThatFill_34 : decode og_c_Outlook_drawsThatFill 34 = .ok (.getfield 36, 3) := by decide +kernel
theorem d_Outlook_drawsThatFill_37 : decode og_c_Outlook_drawsThatFill 37 = .ok (.iload 5, 2) := by decide +kernel
theorem d_Outlook_drawsThatFill_39 : decode og_c_Outlook_drawsThatFill 39 = .ok (.aload_n 0, 1) := by decide +kernel
theorem d_Outlook_drawsThatFill_40 : decode og_c_Outlook_drawsThatFill 40 = .ok (.getfield 15, 3) := by decide +kernel
theorem d_Outlook_drawsThatFill_43 : decode og_c_Outlook_drawsThatFill 43 = .ok (.aload_n 1, 1) := by decide +kernel
theorem d_Outlook_drawsThatFill_44 : decode og_c_Outlook_drawsThatFill 44 = .ok (.bipush 8, 2) := by decide +kernel
theorem d_Outlook_drawsThatFill_46 : decode og_c_Outlook_drawsThatFill 46 = .ok (.aload_n 2, 1) := by decide +kernel
theorem d_Outlook_drawsThatFill_47 : decode og_c_Outlook_drawsThatFill 47 = .ok (.iload 5, 2) := by decide +kernel
theorem d_Outlook_drawsThatFill_49 : decode og_c_Outlook_drawsThatFill 49 = .ok (.iconst 0, 1) := by decide +kernel
theorem d_Outlook_drawsThatFill_50 : decode og_c_Outlook_drawsThatFill 50 = .ok (.invokevirtual 77, 3) := by decide +kernel
theorem d_Outlook_drawsThatFill_53 : decode og_c_Outlook_drawsThatFill 53 = .ok (.bipush 100, 2) := by decide +kernel
theorem d_Outlook_drawsThatFill_55 : decode og_c_Outlook_drawsThatFill 55 = .ok (.invokestatic 111, 3) := by decide +kernel
theorem d_Outlook_drawsThatFill_58 : decode og_c_Outlook_drawsThatFill 58 = .ok (.iastore, 1) := by decide +kernel
theorem d_Outlook_drawsThatFill_59 : decode og_c_Outlook_drawsThatFill 59 = .ok (.iinc 5 1, 3) := by decide +kernel
theorem d_Outlook_drawsThatFill_62 : decode og_c_Outlook_drawsThatFill 62 = .ok (.goto (-56), 3) := by decide +kernel
theorem d_Outlook_drawsThatFill_65 : decode og_c_Outlook_drawsThatFill 65 = .ok (.lconst 0, 1) := by decide +kernel
theorem d_Outlook_drawsThatFill_66 : decode og_c_Outlook_drawsThatFill 66 = .ok (.lstore 5, 2) := by decide +kernel
theorem d_Outlook_drawsThatFill_68 : decode og_c_Outlook_drawsThatFill 68 = .ok (.iconst 0, 1) := by decide +kernel
theorem d_Outlook_drawsThatFill_69 : decode og_c_Outlook_drawsThatFill 69 = .ok (.istore 7, 2) := by decide +kernel
theorem d_Outlook_drawsThatFill_71 : decode og_c_Outlook_drawsThatFill 71 = .ok (.iload 7, 2) := by decide +kernel
theorem d_Outlook_drawsThatFill_73 : decode og_c_Outlook_drawsThatFill 73 = .ok (.iload 4, 2) := by decide +kernel
theorem d_Outlook_drawsThatFill_75 : decode og_c_Outlook_drawsThatFill 75 = .ok (.if_icmp .gt 59, 3) := by decide +kernel
theorem d_Outlook_drawsThatFill_78 : decode og_c_Outlook_drawsThatFill 78 = .ok (.iload 7, 2) := by decide +kernel
theorem d_Outlook_drawsThatFill_80 : decode og_c_Outlook_drawsThatFill 80 = .ok (.iload 4, 2) := by decide +kernel
theorem d_Outlook_drawsThatFill_82 : decode og_c_Outlook_drawsThatFill 82 = .ok (.iconst (-1), 1) := by decide +kernel
theorem d_Outlook_drawsThatFill_83 : decode og_c_Outlook_drawsThatFill 83 = .ok (.ixor, 1) := by decide +kernel
theorem d_Outlook_drawsThatFill_84 : decode og_c_Outlook_drawsThatFill 84 = .ok (.iand, 1) := by decide +kernel
theorem d_Outlook_drawsThatFill_85 : decode og_c_Outlook_drawsThatFill 85 = .ok (.ifCond .ne 43, 3) := by decide +kernel
theorem d_Outlook_drawsThatFill_88 : decode og_c_Outlook_drawsThatFill 88 = .ok (.aload_n 0, 1) := by decide +kernel
theorem d_Outlook_drawsThatFill_89 : decode og_c_Outlook_drawsThatFill 89 = .ok (.aload_n 2, 1) := by decide +kernel
theorem d_Outlook_drawsThatFill_90 : decode og_c_Outlook_drawsThatFill 90 = .ok (.iload 7, 2) := by decide +kernel
theorem d_Outlook_drawsThatFill_92 : decode og_c_Outlook_drawsThatFill 92 = .ok (.invokevirtual 114, 3) := by decide +kernel
theorem d_Outlook_drawsThatFill_95 : decode og_c_Outlook_drawsThatFill 95 = .ok (.lstore 8, 2) := by decide +kernel
theorem d_Outlook_drawsThatFill_97 : decode og_c_Outlook_drawsThatFill 97 = .ok (.lload 8, 2) := by decide +kernel
theorem d_Outlook_drawsThatFill_99 : decode og_c_Outlook_drawsThatFill 99 = .ok (.lconst 0, 1) := by decide +kernel
theorem d_Outlook_drawsThatFill_100 : decode og_c_Outlook_drawsThatFill 100 = .ok (.lcmp, 1) := by decide +kernel
theorem d_Outlook_drawsThatFill_101 : decode og_c_Outlook_drawsThatFill 101 = .ok (.ifCond .le 27, 3) := by decide +kernel
theorem d_Outlook_drawsThatFill_104 : decode og_c_Outlook_drawsThatFill 104 = .ok (.iload_n 3, 1) := by decide +kernel
theorem d_Outlook_drawsThatFill_105 : decode og_c_Outlook_drawsThatFill 105 = .ok (.iconst (-1), 1) := by decide +kernel
theorem d_Outlook_drawsThatFill_106 : decode og_c_Outlook_drawsThatFill 106 = .ok (.if_icmp .eq 15, 3) := by decide +kernel
theorem d_Outlook_drawsThatFill_109 : decode og_c_Outlook_drawsThatFill 109 = .ok (.aload_n 0, 1) := by decide +kernel
theorem d_Outlook_drawsThatFill_110 : decode og_c_Outlook_drawsThatFill 110 = .ok (.aload_n 1, 1) := by decide +kernel
theorem d_Outlook_drawsThatFill_111 : decode og_c_Outlook_drawsThatFill 111 = .ok (.aload_n 2, 1) := by decide +kernel
theorem d_Outlook_drawsThatFill_112 : decode og_c_Outlook_drawsThatFill 112 = .ok (.iload 7, 2) := by decide +kernel
theorem d_Outlook_drawsThatFill_114 : decode og_c_Outlook_drawsThatFill 114 = .ok (.iload_n 3, 1) := by decide +kernel
theorem d_Outlook_drawsThatFill_115 : decode og_c_Outlook_drawsThatFill 115 = .ok (.invokevirtual 118, 3) := by decide +kernel
theorem d_Outlook_drawsThatFill_118 : decode og_c_Outlook_drawsThatFill 118 = .ok (.ifCond .eq 10, 3) := by decide +kernel
theorem d_Outlook_drawsThatFill_121 : decode og_c_Outlook_drawsThatFill 121 = .ok (.lload 5, 2) := by decide +kernel
theorem d_Outlook_drawsThatFill_123 : decode og_c_Outlook_drawsThatFill 123 = .ok (.lload 8, 2) := by decide +kernel
theorem d_Outlook_drawsThatFill_125 : decode og_c_Outlook_drawsThatFill 125 = .ok (.ladd, 1) := by decide +kernel
theorem d_Outlook_drawsThatFill_126 : decode og_c_Outlook_drawsThatFill 126 = .ok (.lstore 5, 2) := by decide +kernel
theorem d_Outlook_drawsThatFill_128 : decode og_c_Outlook_drawsThatFill 128 = .ok (.iinc 7 1, 3) := by decide +kernel
theorem d_Outlook_drawsThatFill_131 : decode og_c_Outlook_drawsThatFill 131 = .ok (.goto (-60), 3) := by decide +kernel
theorem d_Outlook_drawsThatFill_134 : decode og_c_Outlook_drawsThatFill 134 = .ok (.lload 5, 2) := by decide +kernel
theorem d_Outlook_drawsThatFill_136 : decode og_c_Outlook_drawsThatFill 136 = .ok (.lreturn, 1) := by decide +kernel
def m_Outlook_drawsThatFill : og_Dn := og_den [11, 15, 16, 0] 10 1 (og_seq (og_set 4 (og_k 0)) (og_cut (og_seq (og_set 5 (og_k 0)) (og_while (og_cc og_rlt (og_loc 5) (og_get 1 (og_loc 2))) (og_if (og_cb (og_call m_Yard_lives [og_loc 2, og_loc 5])) (og_seq (og_set 4 (og_bop og_oor (og_loc 4) (og_bop og_oshl (og_k 1) (og_loc 5)))) (og_ast 8 (og_fix (fun _ => 14) (og_loc 0)) (og_loc 5) (og_call m_OG_cut [og_call m_Reckoner_value [og_fix (fun _ => 6) (og_loc 0), og_loc 1, og_k 8, og_loc 2, og_loc 5, og_k 0], og_k 100]))) (og_skip)) (og_inc 5 1))) (og_seq (og_set 5 (og_k 0)) (og_cut (og_seq (og_set 7 (og_k 0)) (og_while (og_cc og_rle (og_loc 7) (og_loc 4)) (og_if (og_cc og_req (og_bop og_oand (og_loc 7) (og_bop og_oxor (og_loc 4) (og_k (-1)))) (og_k 0)) (og_seq (og_set 8 (og_call m_Outlook_drawsOf [og_loc 0, og_loc 2, og_loc 7])) (og_if (og_and (og_cc og_rgt (og_loc 8) (og_k 0)) (og_or (og_cc og_req (og_loc 3) (og_k (-1))) (og_cb (og_call m_Outlook_isFilledBy [og_loc 0, og_loc 1, og_loc 2, og_loc 7, og_loc 3])))) (og_set 5 (og_ladd (og_loc 5) (og_loc 8))) (og_skip))) (og_skip)) (og_inc 7 1))) (og_ret (og_loc 5))))))
set_option maxRecDepth 20000 in
theorem ok_Outlook_drawsThatFill : og_MOK og_y_Outlook_drawsThatFill og_c_Outlook_drawsThatFill 10 1 7 [11, 15, 16, 0] m_Outlook_drawsThatFill := og_method (b := 0) (lt' := []) (by decide +kernel) (by decide) (by decide) (og_sseq (og_istore (i := 4) (lt' := [(0, 11), (1, 15), (2, 16), (3, 0), (4, 0)]) (og_iconst (by decide) d_Outlook_drawsThatFill_0) (by decide) (by decide) d_Outlook_drawsThatFill_1) (og_scut (og_sdrop (lt' := [(0, 11), (1, 15), (2, 16), (3, 0), (4, 0), (5, 0)]) (lt2 := [(0, 11), (1, 15), (2, 16), (3, 0), (4, 0)]) (og_sseq (og_istore (i := 5) (lt' := [(0, 11), (1, 15), (2, 16), (3, 0), (4, 0), (5, 0)]) (og_iconst (by decide) d_Outlook_drawsThatFill_3) (by decide) (by decide) d_Outlook_drawsThatFill_4) (og_swhile (T := 15) (F := 65) (cp0 := 59) (og_ccn og_n_lt (og_ige (tgt := 65) (og_iload (i := 5) (j := 5) (by rfl) d_Outlook_drawsThatFill_6) (og_f_Yard_people_N (og_aload_n (i := 2) (t := 14) (j := 2) (by rfl) (by rfl) d_Outlook_drawsThatFill_8) og_w53 d_Outlook_drawsThatFill_9) d_Outlook_drawsThatFill_12 (by decide))) (og_sif (T := 24) (F := 59) (og_cbeq (tgt := 59) (og_callVz (og_acons (og_aload_n (i := 2) (t := 14) (j := 2) (by rfl) (by rfl) d_Outlook_drawsThatFill_15) (og_acons (og_iload (i := 5) (j := 5) (by rfl) d_Outlook_drawsThatFill_16) (og_anil))) (by decide) ok_Yard_lives (v_Yard_lives (by decide)) og_w959 d_Outlook_drawsThatFill_18) d_Outlook_drawsThatFill_21 (by decide)) (og_sseq (og_istore (i := 4) (lt' := [(0, 11), (1, 15), (2, 16), (3, 0), (4, 0), (5, 0)]) (og_ior (og_iload (i := 4) (j := 4) (by rfl) d_Outlook_drawsThatFill_24) (og_ishl (og_iconst (by decide) d_Outlook_drawsThatFill_26) (og_iload (i := 5) (j := 5) (by rfl) d_Outlook_drawsThatFill_27) d_Outlook_drawsThatFill_29) d_Outlook_drawsThatFill_30) (by decide) (by decide) d_Outlook_drawsThatFill_31) (og_iastore (N := 8) (og_f_Outlook_deaths (og_aload_n (i := 0) (t := 9) (j := 0) (by rfl) (by rfl) d_Outlook_drawsThatFill_33) og_w328 d_Outlook_drawsThatFill_34) (by rfl) (og_iload (i := 5) (j := 5) (by rfl) d_Outlook_drawsThatFill_37) (og_callNi (og_acons (og_callVi (og_acons (og_f_Outlook_reckoner (og_aload_n (i := 0) (t := 9) (j := 0) (by rfl) (by rfl) d_Outlook_drawsThatFill_39) og_w318 d_Outlook_drawsThatFill_40) (og_acons (og_aload_n (i := 1) (t := 13) (j := 1) (by rfl) (by rfl) d_Outlook_drawsThatFill_43) (og_acons (og_bipush (by decide) d_Outlook_drawsThatFill_44) (og_acons (og_aload_n (i := 2) (t := 14) (j := 2) (by rfl) (by rfl) d_Outlook_drawsThatFill_46) (og_acons (og_iload (i := 5) (j := 5) (by rfl) d_Outlook_drawsThatFill_47) (og_acons (og_iconst (by decide) d_Outlook_drawsThatFill_49) (og_anil))))))) (by decide) ok_Reckoner_value (v_Reckoner_value (by decide)) og_w929 d_Outlook_drawsThatFill_50) (og_acons (og_bipush (by decide) d_Outlook_drawsThatFill_53) (og_anil))) (by decide) ok_OG_cut (v_OG_cut (by decide)) og_w960 d_Outlook_drawsThatFill_55) d_Outlook_drawsThatFill_58)) (og_sskip)) (og_gS (b' := 6) (og_iinc (j := 5) (lt' := [(0, 11), (1, 15), (2, 16), (3, 0), (4, 0), (5, 0)]) (by rfl) (by decide) (by decide) d_Outlook_drawsThatFill_59) d_Outlook_drawsThatFill_62 (by decide)))) (by decide)) (og_sseq (og_lstore (i := 5) (lt' := [(0, 11), (1, 15), (2, 16), (3, 0), (4, 0), (5, 1)]) (og_lconst (x := 0) d_Outlook_drawsThatFill_65) (by decide) (by decide) d_Outlook_drawsThatFill_66) (og_scut (og_sdrop (lt' := [(0, 11), (1, 15), (2, 16), (3, 0), (4, 0), (5, 1), (7, 0)]) (lt2 := [(0, 11), (1, 15), (2, 16), (3, 0), (4, 0), (5, 1)]) (og_sseq (og_istore (i := 7) (lt' := [(0, 11), (1, 15), (2, 16), (3, 0), (4, 0), (5, 1), (7, 0)]) (og_iconst (by decide) d_Outlook_drawsThatFill_68) (by decide) (by decide) d_Outlook_drawsThatFill_69) (og_swhile (T := 78) (F := 134) (cp0 := 128) (og_ccn og_n_le (og_igt (tgt := 134) (og_iload (i := 7) (j := 6) (by rfl) d_Outlook_drawsThatFill_71) (og_iload (i := 4) (j := 4) (by rfl) d_Outlook_drawsThatFill_73) d_Outlook_drawsThatFill_75 (by decide))) (og_sif (T := 88) (F := 128) (og_ccn og_n_eq (og_zne (tgt := 128) (og_iand (og_iload (i := 7) (j := 6) (by rfl) d_Outlook_drawsThatFill_78) (og_ixor (og_iload (i := 4) (j := 4) (by rfl) d_Outlook_drawsThatFill_80) (og_iconst (by decide) d_Outlook_drawsThatFill_82) d_Outlook_drawsThatFill_83) d_Outlook_drawsThatFill_84) d_Outlook_drawsThatFill_85 (by decide))) (og_sdrop (lt' := [(0, 11), (1, 15), (2, 16), (3, 0), (4, 0), (5, 1), (7, 0), (8, 1)]) (lt2 := [(0, 11), (1, 15), (2, 16), (3, 0), (4, 0), (5, 1), (7, 0)]) (og_sseq (og_lstore (i := 8) (lt' := [(0, 11), (1, 15), (2, 16), (3, 0), (4, 0), (5, 1), (7, 0), (8, 1)]) (og_callVl (og_acons (og_aload_n (i := 0) (t := 9) (j := 0) (by rfl) (by rfl) d_Outlook_drawsThatFill_88) (og_acons (og_aload_n (i := 2) (t := 14) (j := 2) (by rfl) (by rfl) d_Outlook_drawsThatFill_89) (og_acons (og_iload (i := 7) (j := 6) (by rfl) d_Outlook_drawsThatFill_90) (og_anil)))) (by decide) ok_Outlook_drawsOf (v_Outlook_drawsOf (by decide)) og_w961 d_Outlook_drawsThatFill_92) (by decide) (by decide) d_Outlook_drawsThatFill_95) (og_sif (T := 121) (F := 128) (og_cand (og_ccn og_n_gt (og_lle (tgt := 128) (og_lload (i := 8) (j := 7) (by rfl) d_Outlook_drawsThatFill_97) (og_lconst (x := 0) d_Outlook_drawsThatFill_99) d_Outlook_drawsThatFill_100 d_Outlook_drawsThatFill_101 (by decide))) (og_cor (og_ieq (tgt := 121) (og_iload_n (i := 3) (j := 3) (by rfl) (by rfl) d_Outlook_drawsThatFill_104) (og_iconst (by decide) d_Outlook_drawsThatFill_105) d_Outlook_drawsThatFill_106 (by decide)) (og_cbeq (tgt := 128) (og_callVz (og_acons (og_aload_n (i := 0) (t := 9) (j := 0) (by rfl) (by rfl) d_Outlook_drawsThatFill_109) (og_acons (og_aload_n (i := 1) (t := 13) (j := 1) (by rfl) (by rfl) d_Outlook_drawsThatFill_110) (og_acons (og_aload_n (i := 2) (t := 14) (j := 2) (by rfl) (by rfl) d_Outlook_drawsThatFill_111) (og_acons (og_iload (i := 7) (j := 6) (by rfl) d_Outlook_drawsThatFill_112) (og_acons (og_iload_n (i := 3) (j := 3) (by rfl) (by rfl) d_Outlook_drawsThatFill_114) (og_anil)))))) (by decide) ok_Outlook_isFilledBy (v_Outlook_isFilledBy (by decide)) og_w965 d_Outlook_drawsThatFill_115) d_Outlook_drawsThatFill_118 (by decide)))) (og_lstore (i := 5) (lt' := [(0, 11), (1, 15), (2, 16), (3, 0), (4, 0), (5, 1), (7, 0), (8, 1)]) (og_ladd_ (og_lload (i := 5) (j := 5) (by rfl) d_Outlook_drawsThatFill_121) (og_lload (i := 8) (j := 7) (by rfl) d_Outlook_drawsThatFill_123) d_Outlook_drawsThatFill_125) (by decide) (by decide) d_Outlook_drawsThatFill_126) (og_sskip))) (by decide)) (og_sskip)) (og_gS (b' := 71) (og_iinc (j := 6) (lt' := [(0, 11), (1, 15), (2, 16), (3, 0), (4, 0), (5, 1), (7, 0)]) (by rfl) (by decide) (by decide) d_Outlook_drawsThatFill_128) d_Outlook_drawsThatFill_131 (by decide)))) (by decide)) (og_sretl (og_lload (i := 5) (j := 5) (by rfl) d_Outlook_drawsThatFill_134) d_Outlook_drawsThatFill_136))))) (fun h => by cases h)
abbrev og_c_OG_odds : ByteArray := prog_1_method_19_code
abbrev og_y_OG_odds : MethodName := ⟨"OpenGraves", "odds", "(I)J"⟩
theorem v_OG_odds {own : String} {idx dep : Nat} (h : 8 + 1 ≤ dep) : og_sV own idx og_y_OG_odds og_c_OG_odds 2 1 8 dep 1 1 := ⟨⟨0, og_sl_OG, og_T_OG, 17, rfl, by decide, rfl⟩, og_w952, og_w953, og_w1, og_w954, ⟨by decide +kernel, by decide +kernel, by decide +kernel⟩, h, by decide⟩
theorem d_OG_odds_0 : decode og_c_OG_odds 0 = .ok (.aload_n 0, 1) := by decide +kernel
theorem d_OG_odds_1 : decode og_c_OG_odds 1 = .ok (.getfield 90, 3) := by decide +kernel
theorem d_OG_odds_4 : decode og_c_OG_odds 4 = .ok (.getfield 148, 3) := by decide +kernel
theorem d_OG_odds_7 : decode og_c_OG_odds 7 = .ok (.sipush 999, 3) := by decide +kernel
theorem d_OG_odds_10 : decode og_c_OG_odds 10 = .ok (.if_icmp .ge 19, 3) := by decide +kernel
theorem d_OG_odds_13 : decode og_c_OG_odds 13 = .ok (.iload_n 1, 1) := by decide +kernel
theorem d_OG_odds_14 : decode og_c_OG_odds 14 = .ok (.iconst (-1), 1) := by decide +kernel
theorem d_OG_odds_15 : decode og_c_OG_odds 15 = .ok (.if_icmp .eq 18, 3) := by decide +kernel
theorem d_OG_odds_18 : decode og_c_OG_odds 18 = .ok (.aload_n 0, 1) := by decide +kernel
theorem d_OG_odds_19 : decode og_c_OG_odds 19 = .ok (.getfield 90, 3) := by decide +kernel
theorem d_OG_odds_22 : decode og_c_OG_odds 22 = .ok (.iload_n 1, 1) := by decide +kernel
theorem d_OG_odds_23 : decode og_c_OG_odds 23 = .ok (.invokevirtual 167, 3) := by decide +kernel
theorem d_OG_odds_26 : decode og_c_OG_odds 26 = .ok (.ifCond .ne 7, 3) := by decide +kernel
theorem d_OG_odds_29 : decode og_c_OG_odds 29 = .ok (.ldc2_w 205, 3) := by decide +kernel
theorem d_OG_odds_32 : decode og_c_OG_odds 32 = .ok (.lreturn, 1) := by decide +kernel
theorem d_OG_odds_33 : decode og_c_OG_odds 33 = .ok (.aload_n 0, 1) := by decide +kernel
theorem d_OG_odds_34 : decode og_c_OG_odds 34 = .ok (.getfield 69, 3) := by decide +kernel
theorem d_OG_odds_37 : decode og_c_OG_odds 37 = .ok (.aload_n 0, 1) := by decide +kernel
theorem d_OG_odds_38 : decode og_c_OG_odds 38 = .ok (.getfield 10, 3) := by decide +kernel
theorem d_OG_odds_41 : decode og_c_OG_odds 41 = .ok (.getfield 37, 3) := by decide +kernel
theorem d_OG_odds_44 : decode og_c_OG_odds 44 = .ok (.aload_n 0, 1) := by decide +kernel
theorem d_OG_odds_45 : decode og_c_OG_odds 45 = .ok (.getfield 90, 3) := by decide +kernel
theorem d_OG_odds_48 : decode og_c_OG_odds 48 = .ok (.iload_n 1, 1) := by decide +kernel
theorem d_OG_odds_49 : decode og_c_OG_odds 49 = .ok (.invokevirtual 263, 3) := by decide +kernel
theorem d_OG_odds_52 : decode og_c_OG_odds 52 = .ok (.lreturn, 1) := by decide +kernel
def m_OG_odds : og_Dn := og_den [5, 0] 2 1 (og_seq (og_if (og_or (og_cc og_rge (og_get 2 (og_fix (fun _ => 100) (og_loc 0))) (og_k 999)) (og_and (og_cc og_rne (og_loc 1) (og_k (-1))) (og_not (og_cb (og_call m_Yard_isGrave [og_fix (fun _ => 100) (og_loc 0), og_loc 1]))))) (og_ret (og_k (-1000000000000000))) (og_skip)) (og_ret (og_call m_Outlook_drawsThatFill [og_fix (fun _ => 10) (og_loc 0), og_fix (fun i => i + 2) (og_get 15 (og_loc 0)), og_fix (fun _ => 100) (og_loc 0), og_loc 1])))
set_option maxRecDepth 20000 in
theorem ok_OG_odds : og_MOK og_y_OG_odds og_c_OG_odds 2 1 8 [5, 0] m_OG_odds := og_method (b := 0) (lt' := []) (by decide +kernel) (by decide) (by decide) (og_sseq (og_sif (T := 29) (F := 33) (og_cor (og_ige (tgt := 29) (og_f_Yard_month_N (og_f_OG_now (og_aload_n (i := 0) (t := 3) (j := 0) (by rfl) (by rfl) d_OG_odds_0) og_w397 d_OG_odds_1) og_w58 d_OG_odds_4) (og_sipush (by decide) d_OG_odds_7) d_OG_odds_10 (by decide)) (og_cand (og_ccn og_n_ne (og_ieq (tgt := 33) (og_iload_n (i := 1) (j := 1) (by rfl) (by rfl) d_OG_odds_13) (og_iconst (by decide) d_OG_odds_14) d_OG_odds_15 (by decide))) (og_cnot (og_cbne (tgt := 33) (og_callVz (og_acons (og_f_OG_now (og_aload_n (i := 0) (t := 3) (j := 0) (by rfl) (by rfl) d_OG_odds_18) og_w397 d_OG_odds_19) (og_acons (og_iload_n (i := 1) (j := 1) (by rfl) (by rfl) d_OG_odds_22) (og_anil))) (by decide) ok_Yard_isGrave (v_Yard_isGrave (by decide)) og_w712 d_OG_odds_23) d_OG_odds_26 (by decide))))) (og_sretl (og_ldc2 (x := (-1000000000000000)) (by decide) og_w737 d_OG_odds_29) d_OG_odds_32) (og_sskip)) (og_sretl (og_callVl (og_acons (og_f_OG_outlook (og_aload_n (i := 0) (t := 3) (j := 0) (by rfl) (by rfl) d_OG_odds_33) og_w394 d_OG_odds_34) (og_acons (og_f_Parish_rules_N (og_f_OG_told (og_aload_n (i := 0) (t := 3) (j := 0) (by rfl) (by rfl) d_OG_odds_37) og_w404 d_OG_odds_38) og_w150 d_OG_odds_41) (og_acons (og_f_OG_now (og_aload_n (i := 0) (t := 3) (j := 0) (by rfl) (by rfl) d_OG_odds_44) og_w397 d_OG_odds_45) (og_acons (og_iload_n (i := 1) (j := 1) (by rfl) (by rfl) d_OG_odds_48) (og_anil))))) (by decide) ok_Outlook_drawsThatFill (v_Outlook_drawsThatFill (by decide)) og_w955 d_OG_odds_49) d_OG_odds_52)) (fun h => by cases h)
abbrev og_c_OG_see : ByteArray := prog_1_method_20_code
abbrev og_y_OG_see : MethodName := ⟨"OpenGraves", "see", "()I"⟩
theorem v_OG_see {own : String} {idx dep : Nat} (h : 2 + 1 ≤ dep) : og_sV own idx og_y_OG_see og_c_OG_see 4 0 2 dep 1 0 := ⟨⟨0, og_sl_OG, og_T_OG, 17, rfl, by decide, rfl⟩, og_w972, og_w973, og_w1, og_w974, ⟨by decide +kernel, by decide +kernel, by decide +kernel⟩, h, by decide⟩
theorem d_OG_see_0 : decode og_c_OG_see 0 = .ok (.aload_n 0, 1) := by decide +kernel
theorem d_OG_see_1 : decode og_c_OG_see 1 = .ok (.getfield 22, 3) := by decide +kernel
theorem d_OG_see_4 : decode og_c_OG_see 4 = .ok (.getfield 108, 3) := by decide +kernel
theorem d_OG_see_7 : decode og_c_OG_see 7 = .ok (.iconst 3, 1) := by decide +kernel
theorem d_OG_see_8 : decode og_c_OG_see 8 = .ok (.idiv, 1) := by decide +kernel
theorem d_OG_see_9 : decode og_c_OG_see 9 = .ok (.istore_n 1, 1) := by decide +kernel
theorem d_OG_see_10 : decode og_c_OG_see 10 = .ok (.iload_n 1, 1) := by decide +kernel
theorem d_OG_see_11 : decode og_c_OG_see 11 = .ok (.iconst 1, 1) := by decide +kernel
theorem d_OG_see_12 : decode og_c_OG_see 12 = .ok (.if_icmp .lt 25, 3) := by decide +kernel
theorem d_OG_see_15 : decode og_c_OG_see 15 = .ok (.iload_n 1, 1) := by decide +kernel
theorem d_OG_see_16 : decode og_c_OG_see 16 = .ok (.bipush 16, 2) := by decide +kernel
theorem d_OG_see_18 : decode og_c_OG_see 18 = .ok (.if_icmp .gt 19, 3) := by decide +kernel
theorem d_OG_see_21 : decode og_c_OG_see 21 = .ok (.aload_n 0, 1) := by decide +kernel
theorem d_OG_see_22 : decode og_c_OG_see 22 = .ok (.getfield 22, 3) := by decide +kernel
theorem d_OG_see_25 : decode og_c_OG_see 25 = .ok (.getfield 108, 3) := by decide +kernel
theorem d_OG_see_28 : decode og_c_OG_see 28 = .ok (.iconst 3, 1) := by decide +kernel
theorem d_OG_see_29 : decode og_c_OG_see 29 = .ok (.irem, 1) := by decide +kernel
theorem d_OG_see_30 : decode og_c_OG_see 30 = .ok (.ifCond .ne 7, 3) := by decide +kernel
theorem d_OG_see_33 : decode og_c_OG_see 33 = .ok (.iconst 1, 1) := by decide +kernel
theorem d_OG_see_34 : decode og_c_OG_see 34 = .ok (.goto 4, 3) := by decide +kernel
theorem d_OG_see_37 : decode og_c_OG_see 37 = .ok (.iconst 0, 1) := by decide +kernel
theorem d_OG_see_38 : decode og_c_OG_see 38 = .ok (.istore_n 2, 1) := by decide +kernel
theorem d_OG_see_39 : decode og_c_OG_see 39 = .ok (.iconst 0, 1) := by decide +kernel
theorem d_OG_see_40 : decode og_c_OG_see 40 = .ok (.istore_n 3, 1) := by decide +kernel
theorem d_OG_see_41 : decode og_c_OG_see 41 = .ok (.iload_n 2, 1) := by decide +kernel
theorem d_OG_see_42 : decode og_c_OG_see 42 = .ok (.ifCond .eq 73, 3) := by decide +kernel
theorem d_OG_see_45 : decode og_c_OG_see 45 = .ok (.iload_n 3, 1) := by decide +kernel
theorem d_OG_see_46 : decode og_c_OG_see 46 = .ok (.iload_n 1, 1) := by decide +kernel
theorem d_OG_see_47 : decode og_c_OG_see 47 = .ok (.if_icmp .ge 68, 3) := by decide +kernel
theorem d_OG_see_50 : decode og_c_OG_see 50 = .ok (.aload_n 0, 1) := by decide +kernel
theorem d_OG_see_51 : decode og_c_OG_see 51 = .ok (.getfield 22, 3) := by decide +kernel
theorem d_OG_see_54 : decode og_c_OG_see 54 = .ok (.iconst 3, 1) := by decide +kernel
theorem d_OG_see_55 : decode og_c_OG_see 55 = .ok (.iload_n 3, 1) := by decide +kernel
theorem d_OG_see_56 : decode og_c_OG_see 56 = .ok (.imul, 1) := by decide +kernel
theorem d_OG_see_57 : decode og_c_OG_see 57 = .ok (.invokevirtual 267, 3) := by decide +kernel
theorem d_OG_see_60 : decode og_c_OG_see 60 = .ok (.bipush 30, 2) := by decide +kernel
theorem d_OG_see_62 : decode og_c_OG_see 62 = .ok (.if_icmp .gt 45, 3) := by decide +kernel
theorem d_OG_see_65 : decode og_c_OG_see 65 = .ok (.aload_n 0, 1) := by decide +kernel
theorem d_OG_see_66 : decode og_c_OG_see 66 = .ok (.getfield 90, 3) := by decide +kernel
theorem d_OG_see_69 : decode og_c_OG_see 69 = .ok (.aload_n 0, 1) := by decide +kernel
theorem d_OG_see_70 : decode og_c_OG_see 70 = .ok (.getfield 22, 3) := by decide +kernel
theorem d_OG_see_73 : decode og_c_OG_see 73 = .ok (.iconst 3, 1) := by decide +kernel
theorem d_OG_see_74 : decode og_c_OG_see 74 = .ok (.iload_n 3, 1) := by decide +kernel
theorem d_OG_see_75 : decode og_c_OG_see 75 = .ok (.imul, 1) := by decide +kernel
theorem d_OG_see_76 : decode og_c_OG_see 76 = .ok (.iconst 1, 1) := by decide +kernel
theorem d_OG_see_77 : decode og_c_OG_see 77 = .ok (.iadd, 1) := by decide +kernel
theorem d_OG_see_78 : decode og_c_OG_see 78 = .ok (.invokevirtual 267, 3) := by decide +kernel
theorem d_OG_see_81 : decode og_c_OG_see 81 = .ok (.invokevirtual 167, 3) := by decide +kernel
theorem d_OG_see_84 : decode og_c_OG_see 84 = .ok (.ifCond .eq 23, 3) := by decide +kernel
theorem d_OG_see_87 : decode og_c_OG_see 87 = .ok (.aload_n 0, 1) := by decide +kernel
theorem d_OG_see_88 : decode og_c_OG_see 88 = .ok (.getfield 22, 3) := by decide +kernel
theorem d_OG_see_91 : decode og_c_OG_see 91 = .ok (.iconst 3, 1) := by decide +kernel
theorem d_OG_see_92 : decode og_c_OG_see 92 = .ok (.iload_n 3, 1) := by decide +kernel
theorem d_OG_see_93 : decode og_c_OG_see 93 = .ok (.imul, 1) := by decide +kernel
theorem d_OG_see_94 : decode og_c_OG_see 94 = .ok (.iconst 2, 1) := by decide +kernel
theorem d_OG_see_95 : decode og_c_OG_see 95 = .ok (.iadd, 1) := by decide +kernel
theorem d_OG_see_96 : decode og_c_OG_see 96 = .ok (.invokevirtual 267, 3) := by decide +kernel
theorem d_OG_see_99 : decode og_c_OG_see 99 = .ok (.iconst 1, 1) := by decide +kernel
theorem d_OG_see_100 : decode og_c_OG_see 100 = .ok (.if_icmp .gt 7, 3) := by decide +kernel
theorem d_OG_see_103 : decode og_c_OG_see 103 = .ok (.iconst 1, 1) := by decide +kernel
theorem d_OG_see_104 : decode og_c_OG_see 104 = .ok (.goto 4, 3) := by decide +kernel
theorem d_OG_see_107 : decode og_c_OG_see 107 = .ok (.iconst 0, 1) := by decide +kernel
theorem d_OG_see_108 : decode og_c_OG_see 108 = .ok (.istore_n 2, 1) := by decide +kernel
theorem d_OG_see_109 : decode og_c_OG_see 109 = .ok (.iinc 3 1, 3) := by decide +kernel
theorem d_OG_see_112 : decode og_c_OG_see 112 = .ok (.goto (-71), 3) := by decide +kernel
theorem d_OG_see_115 : decode og_c_OG_see 115 = .ok (.iload_n 2, 1) := by decide +kernel
theorem d_OG_see_116 : decode og_c_OG_see 116 = .ok (.ifCond .eq 33, 3) := by decide +kernel
theorem d_OG_see_119 : decode og_c_OG_see 119 = .ok (.aload_n 0, 1) := by decide +kernel
theorem d_OG_see_120 : decode og_c_OG_see 120 = .ok (.getfield 22, 3) := by decide +kernel
theorem d_OG_see_123 : decode og_c_OG_see 123 = .ok (.getfield 270, 3) := by decide +kernel
theorem d_OG_see_126 : decode og_c_OG_see 126 = .ok (.iconst 0, 1) := by decide +kernel
theorem d_OG_see_127 : decode og_c_OG_see 127 = .ok (.aload_n 0, 1) := by decide +kernel
theorem d_OG_see_128 : decode og_c_OG_see 128 = .ok (.getfield 69, 3) := by decide +kernel
theorem d_OG_see_131 : decode og_c_OG_see 131 = .ok (.getfield 273, 3) := by decide +kernel
theorem d_OG_see_134 : decode og_c_OG_see 134 = .ok (.iconst 0, 1) := by decide +kernel
theorem d_OG_see_135 : decode og_c_OG_see 135 = .ok (.iconst 3, 1) := by decide +kernel
theorem d_OG_see_136 : decode og_c_OG_see 136 = .ok (.iload_n 1, 1) := by decide +kernel
theorem d_OG_see_137 : decode og_c_OG_see 137 = .ok (.imul, 1) := by decide +kernel
theorem d_OG_see_138 : decode og_c_OG_see 138 = .ok (.invokestatic 276, 3) := by decide +kernel
theorem d_OG_see_141 : decode og_c_OG_see 141 = .ok (.aload_n 0, 1) := by decide +kernel
theorem d_OG_see_142 : decode og_c_OG_see 142 = .ok (.getfield 69, 3) := by decide +kernel
theorem d_OG_see_145 : decode og_c_OG_see 145 = .ok (.iload_n 1, 1) := by decide +kernel
theorem d_OG_see_146 : decode og_c_OG_see 146 = .ok (.putfield 136, 3) := by decide +kernel
theorem d_OG_see_149 : decode og_c_OG_see 149 = .ok (.aload_n 0, 1) := by decide +kernel
theorem d_OG_see_150 : decode og_c_OG_see 150 = .ok (.getfield 22, 3) := by decide +kernel
theorem d_OG_see_153 : decode og_c_OG_see 153 = .ok (.iconst 0, 1) := by decide +kernel
theorem d_OG_see_154 : decode og_c_OG_see 154 = .ok (.putfield 108, 3) := by decide +kernel
theorem d_OG_see_157 : decode og_c_OG_see 157 = .ok (.iload_n 2, 1) := by decide +kernel
theorem d_OG_see_158 : decode og_c_OG_see 158 = .ok (.ifCond .eq 7, 3) := by decide +kernel
theorem d_OG_see_161 : decode og_c_OG_see 161 = .ok (.iload_n 1, 1) := by decide +kernel
theorem d_OG_see_162 : decode og_c_OG_see 162 = .ok (.goto 8, 3) := by decide +kernel
theorem d_OG_see_165 : decode og_c_OG_see 165 = .ok (.aload_n 0, 1) := by decide +kernel
theorem d_OG_see_166 : decode og_c_OG_see 166 = .ok (.iconst 1, 1) := by decide +kernel
theorem d_OG_see_167 : decode og_c_OG_see 167 = .ok (.invokevirtual 111, 3) := by decide +kernel
theorem d_OG_see_170 : decode og_c_OG_see 170 = .ok (.ireturn, 1) := by decide +kernel
def m_OG_see : og_Dn := og_den [5] 4 0 (og_seq (og_set 1 (og_div (og_get 1 (og_fix (fun _ => 1) (og_loc 0))) (og_k 3))) (og_seq (og_set 2 (og_ec (og_and (og_and (og_cc og_rge (og_loc 1) (og_k 1)) (og_cc og_rle (og_loc 1) (og_k 16))) (og_cc og_req (og_rem (og_get 1 (og_fix (fun _ => 1) (og_loc 0))) (og_k 3)) (og_k 0))))) (og_cut (og_seq (og_set 3 (og_k 0)) (og_while (og_and (og_cb (og_loc 2)) (og_cc og_rlt (og_loc 3) (og_loc 1))) (og_set 2 (og_ec (og_and (og_and (og_cc og_rle (og_call m_Tape_at [og_fix (fun _ => 1) (og_loc 0), og_mul (og_k 3) (og_loc 3)]) (og_k 30)) (og_cb (og_call m_Yard_isGrave [og_fix (fun _ => 100) (og_loc 0), og_call m_Tape_at [og_fix (fun _ => 1) (og_loc 0), og_add (og_mul (og_k 3) (og_loc 3)) (og_k 1)]]))) (og_cc og_rle (og_call m_Tape_at [og_fix (fun _ => 1) (og_loc 0), og_add (og_mul (og_k 3) (og_loc 3)) (og_k 2)]) (og_k 1))))) (og_inc 3 1))) (og_cut (og_if (og_cb (og_loc 2)) (og_seq (og_acp 1600 48 (og_fix (fun _ => 2) (og_fix (fun _ => 1) (og_loc 0))) (og_k 0) (og_fix (fun _ => 11) (og_fix (fun _ => 10) (og_loc 0))) (og_k 0) (og_mul (og_k 3) (og_loc 1))) (og_putf 4 (og_fix (fun _ => 10) (og_loc 0)) (og_loc 1))) (og_skip)) (og_seq (og_putf 1 (og_fix (fun _ => 1) (og_loc 0)) (og_k 0)) (og_ret (og_ei (og_cb (og_loc 2)) (og_loc 1) (og_call m_OG_refuse [og_loc 0, og_k 1]))))))))
set_option maxRecDepth 20000 in
theorem ok_OG_see : og_MOK og_y_OG_see og_c_OG_see 4 0 2 [5] m_OG_see := og_method (b := 0) (lt' := []) (by decide +kernel) (by decide) (by decide) (og_sseq (og_istore_n (i := 1) (lt' := [(0, 5), (1, 0)]) (og_idiv (og_f_Tape_size_N (og_f_OG_tape (og_aload_n (i := 0) (t := 3) (j := 0) (by rfl) (by rfl) d_OG_see_0) og_w389 d_OG_see_1) og_w167 d_OG_see_4) (og_iconst (by decide) d_OG_see_7) d_OG_see_8) (by rfl) (by decide) (by decide) d_OG_see_9) (og_sseq (og_istore_n (i := 2) (lt' := [(0, 5), (1, 0), (2, 0)]) (og_econd (b := 0) (og_cand (og_cand (og_ccn og_n_ge (og_ilt (tgt := 37) (og_iload_n (i := 1) (j := 1) (by rfl) (by rfl) d_OG_see_10) (og_iconst (by decide) d_OG_see_11) d_OG_see_12 (by decide))) (og_ccn og_n_le (og_igt (tgt := 37) (og_iload_n (i := 1) (j := 1) (by rfl) (by rfl) d_OG_see_15) (og_bipush (by decide) d_OG_see_16) d_OG_see_18 (by decide)))) (og_ccn og_n_eq (og_zne (tgt := 37) (og_irem (og_f_Tape_size_N (og_f_OG_tape (og_aload_n (i := 0) (t := 3) (j := 0) (by rfl) (by rfl) d_OG_see_21) og_w389 d_OG_see_22) og_w167 d_OG_see_25) (og_iconst (by decide) d_OG_see_28) d_OG_see_29) d_OG_see_30 (by decide)))) d_OG_see_33 d_OG_see_34 (by decide) d_OG_see_37 (by rfl)) (by rfl) (by decide) (by decide) d_OG_see_38) (og_scut (og_sdrop (lt' := [(0, 5), (1, 0), (2, 0), (3, 0)]) (lt2 := [(0, 5), (1, 0), (2, 0)]) (og_sseq (og_istore_n (i := 3) (lt' := [(0, 5), (1, 0), (2, 0), (3, 0)]) (og_iconst (by decide) d_OG_see_39) (by rfl) (by decide) (by decide) d_OG_see_40) (og_swhile (T := 50) (F := 115) (cp0 := 109) (og_cand (og_cbeq (tgt := 115) (og_iload_n (i := 2) (j := 2) (by rfl) (by rfl) d_OG_see_41) d_OG_see_42 (by decide)) (og_ccn og_n_lt (og_ige (tgt := 115) (og_iload_n (i := 3) (j := 3) (by rfl) (by rfl) d_OG_see_45) (og_iload_n (i := 1) (j := 1) (by rfl) (by rfl) d_OG_see_46) d_OG_see_47 (by decide)))) (og_istore_n (i := 2) (lt' := [(0, 5), (1, 0), (2, 0), (3, 0)]) (og_econd (b := 0) (og_cand (og_cand (og_ccn og_n_le (og_igt (tgt := 107) (og_callVi (og_acons (og_f_OG_tape (og_aload_n (i := 0) (t := 3) (j := 0) (by rfl) (by rfl) d_OG_see_50) og_w389 d_OG_see_51) (og_acons (og_imul (og_iconst (by decide) d_OG_see_54) (og_iload_n (i := 3) (j := 3) (by rfl) (by rfl) d_OG_see_55) d_OG_see_56) (og_anil))) (by decide) ok_Tape_at (v_Tape_at (by decide)) og_w975 d_OG_see_57) (og_bipush (by decide) d_OG_see_60) d_OG_see_62 (by decide))) (og_cbeq (tgt := 107) (og_callVz (og_acons (og_f_OG_now (og_aload_n (i := 0) (t := 3) (j := 0) (by rfl) (by rfl) d_OG_see_65) og_w397 d_OG_see_66) (og_acons (og_callVi (og_acons (og_f_OG_tape (og_aload_n (i := 0) (t := 3) (j := 0) (by rfl) (by rfl) d_OG_see_69) og_w389 d_OG_see_70) (og_acons (og_iadd (og_imul (og_iconst (by decide) d_OG_see_73) (og_iload_n (i := 3) (j := 3) (by rfl) (by rfl) d_OG_see_74) d_OG_see_75) (og_iconst (by decide) d_OG_see_76) d_OG_see_77) (og_anil))) (by decide) ok_Tape_at (v_Tape_at (by decide)) og_w975 d_OG_see_78) (og_anil))) (by decide) ok_Yard_isGrave (v_Yard_isGrave (by decide)) og_w712 d_OG_see_81) d_OG_see_84 (by decide))) (og_ccn og_n_le (og_igt (tgt := 107) (og_callVi (og_acons (og_f_OG_tape (og_aload_n (i := 0) (t := 3) (j := 0) (by rfl) (by rfl) d_OG_see_87) og_w389 d_OG_see_88) (og_acons (og_iadd (og_imul (og_iconst (by decide) d_OG_see_91) (og_iload_n (i := 3) (j := 3) (by rfl) (by rfl) d_OG_see_92) d_OG_see_93) (og_iconst (by decide) d_OG_see_94) d_OG_see_95) (og_anil))) (by decide) ok_Tape_at (v_Tape_at (by decide)) og_w975 d_OG_see_96) (og_iconst (by decide) d_OG_see_99) d_OG_see_100 (by decide)))) d_OG_see_103 d_OG_see_104 (by decide) d_OG_see_107 (by rfl)) (by rfl) (by decide) (by decide) d_OG_see_108) (og_gS (b' := 41) (og_iinc (j := 3) (lt' := [(0, 5), (1, 0), (2, 0), (3, 0)]) (by rfl) (by decide) (by decide) d_OG_see_109) d_OG_see_112 (by decide)))) (by decide)) (og_scut (og_sif (T := 119) (F := 149) (og_cbeq (tgt := 149) (og_iload_n (i := 2) (j := 2) (by rfl) (by rfl) d_OG_see_115) d_OG_see_116 (by decide)) (og_sseq (og_acopy (n0 := 1600) (n1 := 48) (og_f_Tape_bytes_N (og_f_OG_tape (og_aload_n (i := 0) (t := 3) (j := 0) (by rfl) (by rfl) d_OG_see_119) og_w389 d_OG_see_120) og_w166 d_OG_see_123) (by rfl) (og_iconst (by decide) d_OG_see_126) (og_f_Outlook_seen_N (og_f_OG_outlook (og_aload_n (i := 0) (t := 3) (j := 0) (by rfl) (by rfl) d_OG_see_127) og_w394 d_OG_see_128) og_w322 d_OG_see_131) (by rfl) (og_iconst (by decide) d_OG_see_134) (og_imul (og_iconst (by decide) d_OG_see_135) (og_iload_n (i := 1) (j := 1) (by rfl) (by rfl) d_OG_see_136) d_OG_see_137) (by decide) og_w976 og_w675 og_w674 og_w18 d_OG_see_138) (og_p_Outlook_seenRows_N (og_f_OG_outlook (og_aload_n (i := 0) (t := 3) (j := 0) (by rfl) (by rfl) d_OG_see_141) og_w394 d_OG_see_142) (og_iload_n (i := 1) (j := 1) (by rfl) (by rfl) d_OG_see_145) og_w323 d_OG_see_146)) (og_sskip)) (og_sseq (og_p_Tape_size_N (og_f_OG_tape (og_aload_n (i := 0) (t := 3) (j := 0) (by rfl) (by rfl) d_OG_see_149) og_w389 d_OG_see_150) (og_iconst (by decide) d_OG_see_153) og_w167 d_OG_see_154) (og_sreti (og_eite (og_cbeq (tgt := 165) (og_iload_n (i := 2) (j := 2) (by rfl) (by rfl) d_OG_see_157) d_OG_see_158 (by decide)) (og_iload_n (i := 1) (j := 1) (by rfl) (by rfl) d_OG_see_161) d_OG_see_162 (by decide) (og_callVi (og_acons (og_aload_n (i := 0) (t := 3) (j := 0) (by rfl) (by rfl) d_OG_see_165) (og_acons (og_iconst (by decide) d_OG_see_166) (og_anil))) (by decide) ok_OG_refuse (v_OG_refuse (by decide)) og_w445 d_OG_see_167)) d_OG_see_170)))))) (fun h => by cases h)
abbrev og_c_Outlook_isAsSeen : ByteArray := prog_4_method_14_code
abbrev og_y_Outlook_isAsSeen : MethodName := ⟨"OpenGraves$Outlook", "isAsSeen", "(I)Z"⟩
theorem v_Outlook_isAsSeen {own : String} {idx dep : Nat} (h : 2 + 1 ≤ dep) : og_sV own idx og_y_Outlook_isAsSeen og_c_Outlook_isAsSeen 4 3 2 dep 7 1 := ⟨⟨6, og_sl_Outlook, og_T_Outlook, 9, rfl, by decide, rfl⟩, og_w992, (og_memP (⟨"OpenGraves$Outlook", "isAsSeen", "(I)Z"⟩, 9) (List.mem_of_getElem? (i := 42) (by decide +kernel))), og_w14, og_w993, ⟨by decide +kernel, by decide +kernel, by decide +kernel⟩, h, by decide⟩
theorem d_Outlook_isAsSeen_0 : decode og_c_Outlook_isAsSeen 0 = .ok (.iconst 0, 1) := by decide +kernel
theorem d_Outlook_isAsSeen_1 : decode og_c_Outlook_isAsSeen 1 = .ok (.istore_n 2, 1) := by decide +kernel
theorem d_Outlook_isAsSeen_2 : decode og_c_Outlook_isAsSeen 2 = .ok (.iload_n 2, 1) := by decide +kernel
theorem d_Outlook_isAsSeen_3 : decode og_c_Outlook_isAsSeen 3 = .ok (.aload_n 0, 1) := by decide +kernel
theorem d_Outlook_isAsSeen_4 : decode og_c_Outlook_isAsSeen 4 = .ok (.getfield 133, 3) := by decide +kernel
theorem d_Outlook_isAsSeen_7 : decode og_c_Outlook_isAsSeen 7 = .ok (.if_icmp .ge 75, 3) := by decide +kernel
theorem d_Outlook_isAsSeen_10 : decode og_c_Outlook_isAsSeen 10 = .ok (.aload_n 0, 1) := by decide +kernel
theorem d_Outlook_isAsSeen_11 : decode og_c_Outlook_isAsSeen 11 = .ok (.getfield 26, 3) := by decide +kernel
theorem d_Outlook_isAsSeen_14 : decode og_c_Outlook_isAsSeen 14 = .ok (.iconst 3, 1) := by decide +kernel
theorem d_Outlook_isAsSeen_15 : decode og_c_Outlook_isAsSeen 15 = .ok (.iload_n 2, 1) := by decide +kernel
theorem d_Outlook_isAsSeen_16 : decode og_c_Outlook_isAsSeen 16 = .ok (.imul, 1) := by decide +kernel
theorem d_Outlook_isAsSeen_17 : decode og_c_Outlook_isAsSeen 17 = .ok (.iconst 1, 1) := by decide +kernel
theorem d_Outlook_isAsSeen_18 : decode og_c_Outlook_isAsSeen 18 = .ok (.iadd, 1) := by decide +kernel
theorem d_Outlook_isAsSeen_19 : decode og_c_Outlook_isAsSeen 19 = .ok (.iaload, 1) := by decide +kernel
theorem d_Outlook_isAsSeen_20 : decode og_c_Outlook_isAsSeen 20 = .ok (.istore_n 3, 1) := by decide +kernel
theorem d_Outlook_isAsSeen_21 : decode og_c_Outlook_isAsSeen 21 = .ok (.aload_n 0, 1) := by decide +kernel
theorem d_Outlook_isAsSeen_22 : decode og_c_Outlook_isAsSeen 22 = .ok (.getfield 26, 3) := by decide +kernel
theorem d_Outlook_isAsSeen_25 : decode og_c_Outlook_isAsSeen 25 = .ok (.iconst 3, 1) := by decide +kernel
theorem d_Outlook_isAsSeen_26 : decode og_c_Outlook_isAsSeen 26 = .ok (.iload_n 2, 1) := by decide +kernel
theorem d_Outlook_isAsSeen_27 : decode og_c_Outlook_isAsSeen 27 = .ok (.imul, 1) := by decide +kernel
theorem d_Outlook_isAsSeen_28 : decode og_c_Outlook_isAsSeen 28 = .ok (.iaload, 1) := by decide +kernel
theorem d_Outlook_isAsSeen_29 : decode og_c_Outlook_isAsSeen 29 = .ok (.iload_n 1, 1) := by decide +kernel
theorem d_Outlook_isAsSeen_30 : decode og_c_Outlook_isAsSeen 30 = .ok (.if_icmp .ne 46, 3) := by decide +kernel
theorem d_Outlook_isAsSeen_33 : decode og_c_Outlook_isAsSeen 33 = .ok (.aload_n 0, 1) := by decide +kernel
theorem d_Outlook_isAsSeen_34 : decode og_c_Outlook_isAsSeen 34 = .ok (.getfield 22, 3) := by decide +kernel
theorem d_Outlook_isAsSeen_37 : decode og_c_Outlook_isAsSeen 37 = .ok (.iload_n 3, 1) := by decide +kernel
theorem d_Outlook_isAsSeen_38 : decode og_c_Outlook_isAsSeen 38 = .ok (.invokevirtual 142, 3) := by decide +kernel
theorem d_Outlook_isAsSeen_41 : decode og_c_Outlook_isAsSeen 41 = .ok (.ifCond .eq 35, 3) := by decide +kernel
theorem d_Outlook_isAsSeen_44 : decode og_c_Outlook_isAsSeen 44 = .ok (.aload_n 0, 1) := by decide +kernel
theorem d_Outlook_isAsSeen_45 : decode og_c_Outlook_isAsSeen 45 = .ok (.getfield 22, 3) := by decide +kernel
theorem d_Outlook_isAsSeen_48 : decode og_c_Outlook_isAsSeen 48 = .ok (.iload_n 3, 1) := by decide +kernel
theorem d_Outlook_isAsSeen_49 : decode og_c_Outlook_isAsSeen 49 = .ok (.invokevirtual 70, 3) := by decide +kernel
theorem d_Outlook_isAsSeen_52 : decode og_c_Outlook_isAsSeen 52 = .ok (.aload_n 0, 1) := by decide +kernel
theorem d_Outlook_isAsSeen_53 : decode og_c_Outlook_isAsSeen 53 = .ok (.getfield 26, 3) := by decide +kernel
theorem d_Outlook_isAsSeen_56 : decode og_c_Outlook_isAsSeen 56 = .ok (.iconst 3, 1) := by decide +kernel
theorem d_Outlook_isAsSeen_57 : decode og_c_Outlook_isAsSeen 57 = .ok (.iload_n 2, 1) := by decide +kernel
theorem d_Outlook_isAsSeen_58 : decode og_c_Outlook_isAsSeen 58 = .ok (.imul, 1) := by decide +kernel
theorem d_Outlook_isAsSeen_59 : decode og_c_Outlook_isAsSeen 59 = .ok (.iconst 2, 1) := by decide +kernel
theorem d_Outlook_isAsSeen_60 : decode og_c_Outlook_isAsSeen 60 = .ok (.iadd, 1) := by decide +kernel
theorem d_Outlook_isAsSeen_61 : decode og_c_Outlook_isAsSeen 61 = .ok (.iaload, 1) := by decide +kernel
theorem d_Outlook_isAsSeen_62 : decode og_c_Outlook_isAsSeen 62 = .ok (.iconst 1, 1) := by decide +kernel
theorem d_Outlook_isAsSeen_63 : decode og_c_Outlook_isAsSeen 63 = .ok (.if_icmp .ne 7, 3) := by decide +kernel
theorem d_Outlook_isAsSeen_66 : decode og_c_Outlook_isAsSeen 66 = .ok (.iconst 1, 1) := by decide +kernel
theorem d_Outlook_isAsSeen_67 : decode og_c_Outlook_isAsSeen 67 = .ok (.goto 4, 3) := by decide +kernel
theorem d_Outlook_isAsSeen_70 : decode og_c_Outlook_isAsSeen 70 = .ok (.iconst 0, 1) := by decide +kernel
theorem d_Outlook_isAsSeen_71 : decode og_c_Outlook_isAsSeen 71 = .ok (.if_icmp .eq 5, 3) := by decide +kernel
theorem d_Outlook_isAsSeen_74 : decode og_c_Outlook_isAsSeen 74 = .ok (.iconst 0, 1) := by decide +kernel
theorem d_Outlook_isAsSeen_75 : decode og_c_Outlook_isAsSeen 75 = .ok (.ireturn, 1) := by decide +kernel
theorem d_Outlook_isAsSeen_76 : decode og_c_Outlook_isAsSeen 76 = .ok (.iinc 2 1, 3) := by decide +kernel
theorem d_Outlook_isAsSeen_79 : decode og_c_Outlook_isAsSeen 79 = .ok (.goto (-77), 3) := by decide +kernel
theorem d_Outlook_isAsSeen_82 : decode og_c_Outlook_isAsSeen 82 = .ok (.iconst 1, 1) := by decide +kernel
theorem d_Outlook_isAsSeen_83 : decode og_c_Outlook_isAsSeen 83 = .ok (.ireturn, 1) := by decide +kernel
def m_Outlook_isAsSeen : og_Dn := og_den [11, 0] 4 3 (og_cut (og_seq (og_set 2 (og_k 0)) (og_while (og_cc og_rlt (og_loc 2) (og_get 4 (og_loc 0))) (og_seq (og_set 3 (og_ald 48 (og_fix (fun _ => 11) (og_loc 0)) (og_add (og_mul (og_k 3) (og_loc 2)) (og_k 1)))) (og_if (og_and (og_and (og_cc og_req (og_ald 48 (og_fix (fun _ => 11) (og_loc 0)) (og_mul (og_k 3) (og_loc 2))) (og_loc 1)) (og_cb (og_call m_Yard_isGrave [og_fix (fun _ => 110) (og_loc 0), og_loc 3]))) (og_cc og_rne (og_call m_Yard_isFilled [og_fix (fun _ => 110) (og_loc 0), og_loc 3]) (og_ec (og_cc og_req (og_ald 48 (og_fix (fun _ => 11) (og_loc 0)) (og_add (og_mul (og_k 3) (og_loc 2)) (og_k 2))) (og_k 1))))) (og_retz (og_k 0)) (og_skip))) (og_inc 2 1))) (og_retz (og_k 1)))
set_option maxRecDepth 20000 in
theorem ok_Outlook_isAsSeen : og_MOK og_y_Outlook_isAsSeen og_c_Outlook_isAsSeen 4 3 2 [11, 0] m_Outlook_isAsSeen := og_method (b := 0) (lt' := []) (by decide +kernel) (by decide) (by decide) (og_scut (og_sdrop (lt' := [(0, 11), (1, 0), (2, 0)]) (lt2 := [(0, 11), (1, 0)]) (og_sseq (og_istore_n (i := 2) (lt' := [(0, 11), (1, 0), (2, 0)]) (og_iconst (by decide) d_Outlook_isAsSeen_0) (by rfl) (by decide) (by decide) d_Outlook_isAsSeen_1) (og_swhile (T := 10) (F := 82) (cp0 := 76) (og_ccn og_n_lt (og_ige (tgt := 82) (og_iload_n (i := 2) (j := 2) (by rfl) (by rfl) d_Outlook_isAsSeen_2) (og_f_Outlook_seenRows (og_aload_n (i := 0) (t := 9) (j := 0) (by rfl) (by rfl) d_Outlook_isAsSeen_3) og_w324 d_Outlook_isAsSeen_4) d_Outlook_isAsSeen_7 (by decide))) (og_sdrop (lt' := [(0, 11), (1, 0), (2, 0), (3, 0)]) (lt2 := [(0, 11), (1, 0), (2, 0)]) (og_sseq (og_istore_n (i := 3) (lt' := [(0, 11), (1, 0), (2, 0), (3, 0)]) (og_iald (N := 48) (og_f_Outlook_seen (og_aload_n (i := 0) (t := 9) (j := 0) (by rfl) (by rfl) d_Outlook_isAsSeen_10) og_w321 d_Outlook_isAsSeen_11) (by rfl) (og_iadd (og_imul (og_iconst (by decide) d_Outlook_isAsSeen_14) (og_iload_n (i := 2) (j := 2) (by rfl) (by rfl) d_Outlook_isAsSeen_15) d_Outlook_isAsSeen_16) (og_iconst (by decide) d_Outlook_isAsSeen_17) d_Outlook_isAsSeen_18) d_Outlook_isAsSeen_19) (by rfl) (by decide) (by decide) d_Outlook_isAsSeen_20) (og_sif (T := 74) (F := 76) (og_cand (og_cand (og_ccn og_n_eq (og_ine (tgt := 76) (og_iald (N := 48) (og_f_Outlook_seen (og_aload_n (i := 0) (t := 9) (j := 0) (by rfl) (by rfl) d_Outlook_isAsSeen_21) og_w321 d_Outlook_isAsSeen_22) (by rfl) (og_imul (og_iconst (by decide) d_Outlook_isAsSeen_25) (og_iload_n (i := 2) (j := 2) (by rfl) (by rfl) d_Outlook_isAsSeen_26) d_Outlook_isAsSeen_27) d_Outlook_isAsSeen_28) (og_iload_n (i := 1) (j := 1) (by rfl) (by rfl) d_Outlook_isAsSeen_29) d_Outlook_isAsSeen_30 (by decide))) (og_cbeq (tgt := 76) (og_callVz (og_acons (og_f_Outlook_trial (og_aload_n (i := 0) (t := 9) (j := 0) (by rfl) (by rfl) d_Outlook_isAsSeen_33) og_w319 d_Outlook_isAsSeen_34) (og_acons (og_iload_n (i := 3) (j := 3) (by rfl) (by rfl) d_Outlook_isAsSeen_37) (og_anil))) (by decide) ok_Yard_isGrave (v_Yard_isGrave (by decide)) og_w994 d_Outlook_isAsSeen_38) d_Outlook_isAsSeen_41 (by decide))) (og_ccn og_n_ne (og_ieq (tgt := 76) (og_callVz (og_acons (og_f_Outlook_trial (og_aload_n (i := 0) (t := 9) (j := 0) (by rfl) (by rfl) d_Outlook_isAsSeen_44) og_w319 d_Outlook_isAsSeen_45) (og_acons (og_iload_n (i := 3) (j := 3) (by rfl) (by rfl) d_Outlook_isAsSeen_48) (og_anil))) (by decide) ok_Yard_isFilled (v_Yard_isFilled (by decide)) og_w880 d_Outlook_isAsSeen_49) (og_econd (b := 0) (og_ccn og_n_eq (og_ine (tgt := 70) (og_iald (N := 48) (og_f_Outlook_seen (og_aload_n (i := 0) (t := 9) (j := 0) (by rfl) (by rfl) d_Outlook_isAsSeen_52) og_w321 d_Outlook_isAsSeen_53) (by rfl) (og_iadd (og_imul (og_iconst (by decide) d_Outlook_isAsSeen_56) (og_iload_n (i := 2) (j := 2) (by rfl) (by rfl) d_Outlook_isAsSeen_57) d_Outlook_isAsSeen_58) (og_iconst (by decide) d_Outlook_isAsSeen_59) d_Outlook_isAsSeen_60) d_Outlook_isAsSeen_61) (og_iconst (by decide) d_Outlook_isAsSeen_62) d_Outlook_isAsSeen_63 (by decide))) d_Outlook_isAsSeen_66 d_Outlook_isAsSeen_67 (by decide) d_Outlook_isAsSeen_70 (by rfl)) d_Outlook_isAsSeen_71 (by decide)))) (og_sretz (og_iconst (by decide) d_Outlook_isAsSeen_74) d_Outlook_isAsSeen_75) (og_sskip))) (by decide)) (og_gS (b' := 2) (og_iinc (j := 2) (lt' := [(0, 11), (1, 0), (2, 0)]) (by rfl) (by decide) (by decide) d_Outlook_isAsSeen_76) d_Outlook_isAsSeen_79 (by decide)))) (by decide)) (og_sretz (og_iconst (by decide) d_Outlook_isAsSeen_82) d_Outlook_isAsSeen_83)) (fun h => by cases h)
abbrev og_c_Outlook_agrees : ByteArray := prog_4_method_13_code
abbrev og_y_Outlook_agrees : MethodName := ⟨"OpenGraves$Outlook", "agrees", "(LOpenGraves$Script;LOpenGraves$Yard;II)Z"⟩
theorem v_Outlook_agrees {own : String} {idx dep : Nat} (h : 6 + 1 ≤ dep) : og_sV own idx og_y_Outlook_agrees og_c_Outlook_agrees 8 3 6 dep 7 4 := ⟨⟨6, og_sl_Outlook, og_T_Outlook, 9, rfl, by decide, rfl⟩, og_w987, (og_memP (⟨"OpenGraves$Outlook", "agrees", "(LOpenGraves$Script;LOpenGraves$Yard;II)Z"⟩, 9) (List.mem_of_getElem? (i := 41) (by decide +kernel))), og_w14, og_w988, ⟨by decide +kernel, by decide +kernel, by decide +kernel⟩, h, by decide⟩
theorem d_Outlook_agrees_0 : decode og_c_Outlook_agrees 0 = .ok (.iconst 0, 1) := by decide +kernel
theorem d_Outlook_agrees_1 : decode og_c_Outlook_agrees 1 = .ok (.istore 5, 2) := by decide +kernel
theorem d_Outlook_agrees_3 : decode og_c_Outlook_agrees 3 = .ok (.iconst 0, 1) := by decide +kernel
theorem d_Outlook_agrees_4 : decode og_c_Outlook_agrees 4 = .ok (.istore 6, 2) := by decide +kernel
theorem d_Outlook_agrees_6 : decode og_c_Outlook_agrees 6 = .ok (.iload 6, 2) := by decide +kernel
theorem d_Outlook_agrees_8 : decode og_c_Outlook_agrees 8 = .ok (.aload_n 0, 1) := by decide +kernel
theorem d_Outlook_agrees_9 : decode og_c_Outlook_agrees 9 = .ok (.getfield 133, 3) := by decide +kernel
theorem d_Outlook_agrees_12 : decode og_c_Outlook_agrees 12 = .ok (.if_icmp .ge 25, 3) := by decide +kernel
theorem d_Outlook_agrees_15 : decode og_c_Outlook_agrees 15 = .ok (.iload 5, 2) := by decide +kernel
theorem d_Outlook_agrees_17 : decode og_c_Outlook_agrees 17 = .ok (.aload_n 0, 1) := by decide +kernel
theorem d_Outlook_agrees_18 : decode og_c_Outlook_agrees 18 = .ok (.getfield 26, 3) := by decide +kernel
theorem d_Outlook_agrees_21 : decode og_c_Outlook_agrees 21 = .ok (.iconst 3, 1) := by decide +kernel
theorem d_Outlook_agrees_22 : decode og_c_Outlook_agrees 22 = .ok (.iload 6, 2) := by decide +kernel
theorem d_Outlook_agrees_24 : decode og_c_Outlook_agrees 24 = .ok (.imul, 1) := by decide +kernel
theorem d_Outlook_agrees_25 : decode og_c_Outlook_agrees 25 = .ok (.iaload, 1) := by decide +kernel
theorem d_Outlook_agrees_26 : decode og_c_Outlook_agrees 26 = .ok (.invokestatic 136, 3) := by decide +kernel
theorem d_Outlook_agrees_29 : decode og_c_Outlook_agrees 29 = .ok (.istore 5, 2) := by decide +kernel
theorem d_Outlook_agrees_31 : decode og_c_Outlook_agrees 31 = .ok (.iinc 6 1, 3) := by decide +kernel
theorem d_Outlook_agrees_34 : decode og_c_Outlook_agrees 34 = .ok (.goto (-28), 3) := by decide +kernel
theorem d_Outlook_agrees_37 : decode og_c_Outlook_agrees 37 = .ok (.aload_n 2, 1) := by decide +kernel
theorem d_Outlook_agrees_38 : decode og_c_Outlook_agrees 38 = .ok (.getfield 60, 3) := by decide +kernel
theorem d_Outlook_agrees_41 : decode og_c_Outlook_agrees 41 = .ok (.iload 5, 2) := by decide +kernel
theorem d_Outlook_agrees_43 : decode og_c_Outlook_agrees 43 = .ok (.iadd, 1) := by decide +kernel
theorem d_Outlook_agrees_44 : decode og_c_Outlook_agrees 44 = .ok (.sipush 999, 3) := by decide +kernel
theorem d_Outlook_agrees_47 : decode og_c_Outlook_agrees 47 = .ok (.if_icmp .le 5, 3) := by decide +kernel
theorem d_Outlook_agrees_50 : decode og_c_Outlook_agrees 50 = .ok (.iconst 0, 1) := by decide +kernel
theorem d_Outlook_agrees_51 : decode og_c_Outlook_agrees 51 = .ok (.ireturn, 1) := by decide +kernel
theorem d_Outlook_agrees_52 : decode og_c_Outlook_agrees 52 = .ok (.aload_n 0, 1) := by decide +kernel
theorem d_Outlook_agrees_53 : decode og_c_Outlook_agrees 53 = .ok (.getfield 22, 3) := by decide +kernel
theorem d_Outlook_agrees_56 : decode og_c_Outlook_agrees 56 = .ok (.aload_n 2, 1) := by decide +kernel
theorem d_Outlook_agrees_57 : decode og_c_Outlook_agrees 57 = .ok (.invokevirtual 42, 3) := by decide +kernel
theorem d_Outlook_agrees_60 : decode og_c_Outlook_agrees 60 = .ok (.aload_n 0, 1) := by decide +kernel
theorem d_Outlook_agrees_61 : decode og_c_Outlook_agrees 61 = .ok (.getfield 22, 3) := by decide +kernel
theorem d_Outlook_agrees_64 : decode og_c_Outlook_agrees 64 = .ok (.getfield 74, 3) := by decide +kernel
theorem d_Outlook_agrees_67 : decode og_c_Outlook_agrees 67 = .ok (.iload_n 3, 1) := by decide +kernel
theorem d_Outlook_agrees_68 : decode og_c_Outlook_agrees 68 = .ok (.iload 4, 2) := by decide +kernel
theorem d_Outlook_agrees_70 : decode og_c_Outlook_agrees 70 = .ok (.iastore, 1) := by decide +kernel
theorem d_Outlook_agrees_71 : decode og_c_Outlook_agrees 71 = .ok (.aload_n 0, 1) := by decide +kernel
theorem d_Outlook_agrees_72 : decode og_c_Outlook_agrees 72 = .ok (.iconst 0, 1) := by decide +kernel
theorem d_Outlook_agrees_73 : decode og_c_Outlook_agrees 73 = .ok (.invokevirtual 139, 3) := by decide +kernel
theorem d_Outlook_agrees_76 : decode og_c_Outlook_agrees 76 = .ok (.istore 6, 2) := by decide +kernel
theorem d_Outlook_agrees_78 : decode og_c_Outlook_agrees 78 = .ok (.iconst 1, 1) := by decide +kernel
theorem d_Outlook_agrees_79 : decode og_c_Outlook_agrees 79 = .ok (.istore 7, 2) := by decide +kernel
theorem d_Outlook_agrees_81 : decode og_c_Outlook_agrees 81 = .ok (.iload 7, 2) := by decide +kernel
theorem d_Outlook_agrees_83 : decode og_c_Outlook_agrees 83 = .ok (.iload 5, 2) := by decide +kernel
theorem d_Outlook_agrees_85 : decode og_c_Outlook_agrees 85 = .ok (.if_icmp .gt 35, 3) := by decide +kernel
theorem d_Outlook_agrees_88 : decode og_c_Outlook_agrees 88 = .ok (.iload 6, 2) := by decide +kernel
theorem d_Outlook_agrees_90 : decode og_c_Outlook_agrees 90 = .ok (.ifCond .eq 30, 3) := by decide +kernel
theorem d_Outlook_agrees_93 : decode og_c_Outlook_agrees 93 = .ok (.aload_n 0, 1) := by decide +kernel
theorem d_Outlook_agrees_94 : decode og_c_Outlook_agrees 94 = .ok (.getfield 9, 3) := by decide +kernel
theorem d_Outlook_agrees_97 : decode og_c_Outlook_agrees 97 = .ok (.aload_n 1, 1) := by decide +kernel
theorem d_Outlook_agrees_98 : decode og_c_Outlook_agrees 98 = .ok (.aload_n 0, 1) := by decide +kernel
theorem d_Outlook_agrees_99 : decode og_c_Outlook_agrees 99 = .ok (.getfield 22, 3) := by decide +kernel
theorem d_Outlook_agrees_102 : decode og_c_Outlook_agrees 102 = .ok (.invokevirtual 54, 3) := by decide +kernel
theorem d_Outlook_agrees_105 : decode og_c_Outlook_agrees 105 = .ok (.pop, 1) := by decide +kernel
theorem d_Outlook_agrees_106 : decode og_c_Outlook_agrees 106 = .ok (.aload_n 0, 1) := by decide +kernel
theorem d_Outlook_agrees_107 : decode og_c_Outlook_agrees 107 = .ok (.iload 7, 2) := by decide +kernel
theorem d_Outlook_agrees_109 : decode og_c_Outlook_agrees 109 = .ok (.invokevirtual 139, 3) := by decide +kernel
theorem d_Outlook_agrees_112 : decode og_c_Outlook_agrees 112 = .ok (.istore 6, 2) := by decide +kernel
theorem d_Outlook_agrees_114 : decode og_c_Outlook_agrees 114 = .ok (.iinc 7 1, 3) := by decide +kernel
theorem d_Outlook_agrees_117 : decode og_c_Outlook_agrees 117 = .ok (.goto (-36), 3) := by decide +kernel
theorem d_Outlook_agrees_120 : decode og_c_Outlook_agrees 120 = .ok (.iload 6, 2) := by decide +kernel
theorem d_Outlook_agrees_122 : decode og_c_Outlook_agrees 122 = .ok (.ireturn, 1) := by decide +kernel
def m_Outlook_agrees : og_Dn := og_den [11, 15, 16, 0, 0] 8 3 (og_seq (og_set 5 (og_k 0)) (og_cut (og_seq (og_set 6 (og_k 0)) (og_while (og_cc og_rlt (og_loc 6) (og_get 4 (og_loc 0))) (og_set 5 (og_max (og_loc 5) (og_ald 48 (og_fix (fun _ => 11) (og_loc 0)) (og_mul (og_k 3) (og_loc 6))))) (og_inc 6 1))) (og_seq (og_if (og_cc og_rgt (og_add (og_get 2 (og_loc 2)) (og_loc 5)) (og_k 999)) (og_retz (og_k 0)) (og_skip)) (og_seq (og_exp (og_call m_Yard_become [og_fix (fun _ => 110) (og_loc 0), og_loc 2])) (og_seq (og_ast 8 (og_fix (fun i => i + 7) (og_fix (fun _ => 110) (og_loc 0))) (og_loc 3) (og_loc 4)) (og_seq (og_set 6 (og_call m_Outlook_isAsSeen [og_loc 0, og_k 0])) (og_cut (og_seq (og_set 7 (og_k 1)) (og_while (og_and (og_cc og_rle (og_loc 7) (og_loc 5)) (og_cb (og_loc 6))) (og_seq (og_exp (og_call m_Almanac_pass [og_fix (fun _ => 8) (og_loc 0), og_loc 1, og_fix (fun _ => 110) (og_loc 0)])) (og_set 6 (og_call m_Outlook_isAsSeen [og_loc 0, og_loc 7]))) (og_inc 7 1))) (og_retz (og_loc 6)))))))))
set_option maxRecDepth 20000 in
theorem ok_Outlook_agrees : og_MOK og_y_Outlook_agrees og_c_Outlook_agrees 8 3 6 [11, 15, 16, 0, 0] m_Outlook_agrees := og_method (b := 0) (lt' := []) (by decide +kernel) (by decide) (by decide) (og_sseq (og_istore (i := 5) (lt' := [(0, 11), (1, 15), (2, 16), (3, 0), (4, 0), (5, 0)]) (og_iconst (by decide) d_Outlook_agrees_0) (by decide) (by decide) d_Outlook_agrees_1) (og_scut (og_sdrop (lt' := [(0, 11), (1, 15), (2, 16), (3, 0), (4, 0), (5, 0), (6, 0)]) (lt2 := [(0, 11), (1, 15), (2, 16), (3, 0), (4, 0), (5, 0)]) (og_sseq (og_istore (i := 6) (lt' := [(0, 11), (1, 15), (2, 16), (3, 0), (4, 0), (5, 0), (6, 0)]) (og_iconst (by decide) d_Outlook_agrees_3) (by decide) (by decide) d_Outlook_agrees_4) (og_swhile (T := 15) (F := 37) (cp0 := 31) (og_ccn og_n_lt (og_ige (tgt := 37) (og_iload (i := 6) (j := 6) (by rfl) d_Outlook_agrees_6) (og_f_Outlook_seenRows (og_aload_n (i := 0) (t := 9) (j := 0) (by rfl) (by rfl) d_Outlook_agrees_8) og_w324 d_Outlook_agrees_9) d_Outlook_agrees_12 (by decide))) (og_istore (i := 5) (lt' := [(0, 11), (1, 15), (2, 16), (3, 0), (4, 0), (5, 0), (6, 0)]) (og_imax (og_iload (i := 5) (j := 5) (by rfl) d_Outlook_agrees_15) (og_iald (N := 48) (og_f_Outlook_seen (og_aload_n (i := 0) (t := 9) (j := 0) (by rfl) (by rfl) d_Outlook_agrees_17) og_w321 d_Outlook_agrees_18) (by rfl) (og_imul (og_iconst (by decide) d_Outlook_agrees_21) (og_iload (i := 6) (j := 6) (by rfl) d_Outlook_agrees_22) d_Outlook_agrees_24) d_Outlook_agrees_25) (by decide) (by decide) og_w989 og_w767 og_w19 og_w768 d_Outlook_agrees_26) (by decide) (by decide) d_Outlook_agrees_29) (og_gS (b' := 6) (og_iinc (j := 6) (lt' := [(0, 11), (1, 15), (2, 16), (3, 0), (4, 0), (5, 0), (6, 0)]) (by rfl) (by decide) (by decide) d_Outlook_agrees_31) d_Outlook_agrees_34 (by decide)))) (by decide)) (og_sseq (og_sif (T := 50) (F := 52) (og_ccn og_n_gt (og_ile (tgt := 52) (og_iadd (og_f_Yard_month_N (og_aload_n (i := 2) (t := 14) (j := 2) (by rfl) (by rfl) d_Outlook_agrees_37) og_w56 d_Outlook_agrees_38) (og_iload (i := 5) (j := 5) (by rfl) d_Outlook_agrees_41) d_Outlook_agrees_43) (og_sipush (by decide) d_Outlook_agrees_44) d_Outlook_agrees_47 (by decide))) (og_sretz (og_iconst (by decide) d_Outlook_agrees_50) d_Outlook_agrees_51) (og_sskip)) (og_sseq (og_callVv (og_acons (og_f_Outlook_trial (og_aload_n (i := 0) (t := 9) (j := 0) (by rfl) (by rfl) d_Outlook_agrees_52) og_w319 d_Outlook_agrees_53) (og_acons (og_aload_n (i := 2) (t := 14) (j := 2) (by rfl) (by rfl) d_Outlook_agrees_56) (og_anil))) ok_Yard_become (v_Yard_become (by decide)) og_w821 d_Outlook_agrees_57) (og_sseq (og_iastore (N := 8) (og_f_Yard_will_N (og_f_Outlook_trial (og_aload_n (i := 0) (t := 9) (j := 0) (by rfl) (by rfl) d_Outlook_agrees_60) og_w319 d_Outlook_agrees_61) og_w88 d_Outlook_agrees_64) (by rfl) (og_iload_n (i := 3) (j := 3) (by rfl) (by rfl) d_Outlook_agrees_67) (og_iload (i := 4) (j := 4) (by rfl) d_Outlook_agrees_68) d_Outlook_agrees_70) (og_sseq (og_istore (i := 6) (lt' := [(0, 11), (1, 15), (2, 16), (3, 0), (4, 0), (5, 0), (6, 0)]) (og_callVz (og_acons (og_aload_n (i := 0) (t := 9) (j := 0) (by rfl) (by rfl) d_Outlook_agrees_71) (og_acons (og_iconst (by decide) d_Outlook_agrees_72) (og_anil))) (by decide) ok_Outlook_isAsSeen (v_Outlook_isAsSeen (by decide)) og_w990 d_Outlook_agrees_73) (by decide) (by decide) d_Outlook_agrees_76) (og_scut (og_sdrop (lt' := [(0, 11), (1, 15), (2, 16), (3, 0), (4, 0), (5, 0), (6, 0), (7, 0)]) (lt2 := [(0, 11), (1, 15), (2, 16), (3, 0), (4, 0), (5, 0), (6, 0)]) (og_sseq (og_istore (i := 7) (lt' := [(0, 11), (1, 15), (2, 16), (3, 0), (4, 0), (5, 0), (6, 0), (7, 0)]) (og_iconst (by decide) d_Outlook_agrees_78) (by decide) (by decide) d_Outlook_agrees_79) (og_swhile (T := 93) (F := 120) (cp0 := 114) (og_cand (og_ccn og_n_le (og_igt (tgt := 120) (og_iload (i := 7) (j := 7) (by rfl) d_Outlook_agrees_81) (og_iload (i := 5) (j := 5) (by rfl) d_Outlook_agrees_83) d_Outlook_agrees_85 (by decide))) (og_cbeq (tgt := 120) (og_iload (i := 6) (j := 6) (by rfl) d_Outlook_agrees_88) d_Outlook_agrees_90 (by decide))) (og_sseq (og_spop (og_callVi (og_acons (og_f_Outlook_almanac (og_aload_n (i := 0) (t := 9) (j := 0) (by rfl) (by rfl) d_Outlook_agrees_93) og_w317 d_Outlook_agrees_94) (og_acons (og_aload_n (i := 1) (t := 13) (j := 1) (by rfl) (by rfl) d_Outlook_agrees_97) (og_acons (og_f_Outlook_trial (og_aload_n (i := 0) (t := 9) (j := 0) (by rfl) (by rfl) d_Outlook_agrees_98) og_w319 d_Outlook_agrees_99) (og_anil)))) (by decide) ok_Almanac_pass (v_Almanac_pass (by decide)) og_w827 d_Outlook_agrees_102) d_Outlook_agrees_105) (og_istore (i := 6) (lt' := [(0, 11), (1, 15), (2, 16), (3, 0), (4, 0), (5, 0), (6, 0), (7, 0)]) (og_callVz (og_acons (og_aload_n (i := 0) (t := 9) (j := 0) (by rfl) (by rfl) d_Outlook_agrees_106) (og_acons (og_iload (i := 7) (j := 7) (by rfl) d_Outlook_agrees_107) (og_anil))) (by decide) ok_Outlook_isAsSeen (v_Outlook_isAsSeen (by decide)) og_w990 d_Outlook_agrees_109) (by decide) (by decide) d_Outlook_agrees_112)) (og_gS (b' := 81) (og_iinc (j := 7) (lt' := [(0, 11), (1, 15), (2, 16), (3, 0), (4, 0), (5, 0), (6, 0), (7, 0)]) (by rfl) (by decide) (by decide) d_Outlook_agrees_114) d_Outlook_agrees_117 (by decide)))) (by decide)) (og_sretz (og_iload (i := 6) (j := 6) (by rfl) d_Outlook_agrees_120) d_Outlook_agrees_122)))))))) (fun h => by cases h)
abbrev og_c_Outlook_willsOf : ByteArray := prog_4_method_12_code
abbrev og_y_Outlook_willsOf : MethodName := ⟨"OpenGraves$Outlook", "willsOf", "(LOpenGraves$Script;LOpenGraves$Yard;I)I"⟩
theorem v_Outlook_willsOf {own : String} {idx dep : Nat} (h : 7 + 1 ≤ dep) : og_sV own idx og_y_Outlook_willsOf og_c_Outlook_willsOf 6 0 7 dep 7 3 := ⟨⟨6, og_sl_Outlook, og_T_Outlook, 9, rfl, by decide, rfl⟩, og_w982, og_w983, og_w14, og_w984, ⟨by decide +kernel, by decide +kernel, by decide +kernel⟩, h, by decide⟩
theorem d_Outlook_willsOf_0 : decode og_c_Outlook_willsOf 0 = .ok (.iconst 0, 1) := by decide +kernel
theorem d_Outlook_willsOf_1 : decode og_c_Outlook_willsOf 1 = .ok (.istore 4, 2) := by decide +kernel
theorem d_Outlook_willsOf_3 : decode og_c_Outlook_willsOf 3 = .ok (.iconst 0, 1) := by decide +kernel
theorem d_Outlook_willsOf_4 : decode og_c_Outlook_willsOf 4 = .ok (.istore 5, 2) := by decide +kernel
theorem d_Outlook_willsOf_6 : decode og_c_Outlook_willsOf 6 = .ok (.iload 5, 2) := by decide +kernel
theorem d_Outlook_willsOf_8 : decode og_c_Outlook_willsOf 8 = .ok (.bipush 9, 2) := by decide +kernel
theorem d_Outlook_willsOf_10 : decode og_c_Outlook_willsOf 10 = .ok (.if_icmp .gt 30, 3) := by decide +kernel
theorem d_Outlook_willsOf_13 : decode og_c_Outlook_willsOf 13 = .ok (.aload_n 0, 1) := by decide +kernel
theorem d_Outlook_willsOf_14 : decode og_c_Outlook_willsOf 14 = .ok (.aload_n 1, 1) := by decide +kernel
theorem d_Outlook_willsOf_15 : decode og_c_Outlook_willsOf 15 = .ok (.aload_n 2, 1) := by decide +kernel
theorem d_Outlook_willsOf_16 : decode og_c_Outlook_willsOf 16 = .ok (.iload_n 3, 1) := by decide +kernel
theorem d_Outlook_willsOf_17 : decode og_c_Outlook_willsOf 17 = .ok (.iload 5, 2) := by decide +kernel
theorem d_Outlook_willsOf_19 : decode og_c_Outlook_willsOf 19 = .ok (.invokevirtual 130, 3) := by decide +kernel
theorem d_Outlook_willsOf_22 : decode og_c_Outlook_willsOf 22 = .ok (.ifCond .eq 12, 3) := by decide +kernel
theorem d_Outlook_willsOf_25 : decode og_c_Outlook_willsOf 25 = .ok (.iload 4, 2) := by decide +kernel
theorem d_Outlook_willsOf_27 : decode og_c_Outlook_willsOf 27 = .ok (.iconst 1, 1) := by decide +kernel
theorem d_Outlook_willsOf_28 : decode og_c_Outlook_willsOf 28 = .ok (.iload 5, 2) := by decide +kernel
theorem d_Outlook_willsOf_30 : decode og_c_Outlook_willsOf 30 = .ok (.ishl, 1) := by decide +kernel
theorem d_Outlook_willsOf_31 : decode og_c_Outlook_willsOf 31 = .ok (.ior, 1) := by decide +kernel
theorem d_Outlook_willsOf_32 : decode og_c_Outlook_willsOf 32 = .ok (.istore 4, 2) := by decide +kernel
theorem d_Outlook_willsOf_34 : decode og_c_Outlook_willsOf 34 = .ok (.iinc 5 1, 3) := by decide +kernel
theorem d_Outlook_willsOf_37 : decode og_c_Outlook_willsOf 37 = .ok (.goto (-31), 3) := by decide +kernel
theorem d_Outlook_willsOf_40 : decode og_c_Outlook_willsOf 40 = .ok (.iload 4, 2) := by decide +kernel
theorem d_Outlook_willsOf_42 : decode og_c_Outlook_willsOf 42 = .ok (.ireturn, 1) := by decide +kernel
def m_Outlook_willsOf : og_Dn := og_den [11, 15, 16, 0] 6 0 (og_seq (og_set 4 (og_k 0)) (og_cut (og_seq (og_set 5 (og_k 0)) (og_while (og_cc og_rle (og_loc 5) (og_k 9)) (og_if (og_cb (og_call m_Outlook_agrees [og_loc 0, og_loc 1, og_loc 2, og_loc 3, og_loc 5])) (og_set 4 (og_bop og_oor (og_loc 4) (og_bop og_oshl (og_k 1) (og_loc 5)))) (og_skip)) (og_inc 5 1))) (og_ret (og_loc 4))))
set_option maxRecDepth 20000 in
theorem ok_Outlook_willsOf : og_MOK og_y_Outlook_willsOf og_c_Outlook_willsOf 6 0 7 [11, 15, 16, 0] m_Outlook_willsOf := og_method (b := 0) (lt' := []) (by decide +kernel) (by decide) (by decide) (og_sseq (og_istore (i := 4) (lt' := [(0, 11), (1, 15), (2, 16), (3, 0), (4, 0)]) (og_iconst (by decide) d_Outlook_willsOf_0) (by decide) (by decide) d_Outlook_willsOf_1) (og_scut (og_sdrop (lt' := [(0, 11), (1, 15), (2, 16), (3, 0), (4, 0), (5, 0)]) (lt2 := [(0, 11), (1, 15), (2, 16), (3, 0), (4, 0)]) (og_sseq (og_istore (i := 5) (lt' := [(0, 11), (1, 15), (2, 16), (3, 0), (4, 0), (5, 0)]) (og_iconst (by decide) d_Outlook_willsOf_3) (by decide) (by decide) d_Outlook_willsOf_4) (og_swhile (T := 13) (F := 40) (cp0 := 34) (og_ccn og_n_le (og_igt (tgt := 40) (og_iload (i := 5) (j := 5) (by rfl) d_Outlook_willsOf_6) (og_bipush (by decide) d_Outlook_willsOf_8) d_Outlook_willsOf_10 (by decide))) (og_sif (T := 25) (F := 34) (og_cbeq (tgt := 34) (og_callVz (og_acons (og_aload_n (i := 0) (t := 9) (j := 0) (by rfl) (by rfl) d_Outlook_willsOf_13) (og_acons (og_aload_n (i := 1) (t := 13) (j := 1) (by rfl) (by rfl) d_Outlook_willsOf_14) (og_acons (og_aload_n (i := 2) (t := 14) (j := 2) (by rfl) (by rfl) d_Outlook_willsOf_15) (og_acons (og_iload_n (i := 3) (j := 3) (by rfl) (by rfl) d_Outlook_willsOf_16) (og_acons (og_iload (i := 5) (j := 5) (by rfl) d_Outlook_willsOf_17) (og_anil)))))) (by decide) ok_Outlook_agrees (v_Outlook_agrees (by decide)) og_w985 d_Outlook_willsOf_19) d_Outlook_willsOf_22 (by decide)) (og_istore (i := 4) (lt' := [(0, 11), (1, 15), (2, 16), (3, 0), (4, 0), (5, 0)]) (og_ior (og_iload (i := 4) (j := 4) (by rfl) d_Outlook_willsOf_25) (og_ishl (og_iconst (by decide) d_Outlook_willsOf_27) (og_iload (i := 5) (j := 5) (by rfl) d_Outlook_willsOf_28) d_Outlook_willsOf_30) d_Outlook_willsOf_31) (by decide) (by decide) d_Outlook_willsOf_32) (og_sskip)) (og_gS (b' := 6) (og_iinc (j := 5) (lt' := [(0, 11), (1, 15), (2, 16), (3, 0), (4, 0), (5, 0)]) (by rfl) (by decide) (by decide) d_Outlook_willsOf_34) d_Outlook_willsOf_37 (by decide)))) (by decide)) (og_sreti (og_iload (i := 4) (j := 4) (by rfl) d_Outlook_willsOf_40) d_Outlook_willsOf_42))) (fun h => by cases h)
abbrev og_c_OG_wills : ByteArray := prog_1_method_21_code
abbrev og_y_OG_wills : MethodName := ⟨"OpenGraves", "wills", "(I)I"⟩
theorem v_OG_wills {own : String} {idx dep : Nat} (h : 8 + 1 ≤ dep) : og_sV own idx og_y_OG_wills og_c_OG_wills 2 0 8 dep 1 1 := ⟨⟨0, og_sl_OG, og_T_OG, 17, rfl, by decide, rfl⟩, og_w978, og_w979, og_w1, og_w980, ⟨by decide +kernel, by decide +kernel, by decide +kernel⟩, h, by decide⟩
theorem d_OG_wills_0 : decode og_c_OG_wills 0 = .ok (.aload_n 0, 1) := by decide +kernel
theorem d_OG_wills_1 : decode og_c_OG_wills 1 = .ok (.getfield 90, 3) := by decide +kernel
theorem d_OG_wills_4 : decode og_c_OG_wills 4 = .ok (.iload_n 1, 1) := by decide +kernel
theorem d_OG_wills_5 : decode og_c_OG_wills 5 = .ok (.invokevirtual 217, 3) := by decide +kernel
theorem d_OG_wills_8 : decode og_c_OG_wills 8 = .ok (.ifCond .eq 25, 3) := by decide +kernel
theorem d_OG_wills_11 : decode og_c_OG_wills 11 = .ok (.aload_n 0, 1) := by decide +kernel
theorem d_OG_wills_12 : decode og_c_OG_wills 12 = .ok (.getfield 69, 3) := by decide +kernel
theorem d_OG_wills_15 : decode og_c_OG_wills 15 = .ok (.aload_n 0, 1) := by decide +kernel
theorem d_OG_wills_16 : decode og_c_OG_wills 16 = .ok (.getfield 10, 3) := by decide +kernel
theorem d_OG_wills_19 : decode og_c_OG_wills 19 = .ok (.getfield 37, 3) := by decide +kernel
theorem d_OG_wills_22 : decode og_c_OG_wills 22 = .ok (.aload_n 0, 1) := by decide +kernel
theorem d_OG_wills_23 : decode og_c_OG_wills 23 = .ok (.getfield 90, 3) := by decide +kernel
theorem d_OG_wills_26 : decode og_c_OG_wills 26 = .ok (.iload_n 1, 1) := by decide +kernel
theorem d_OG_wills_27 : decode og_c_OG_wills 27 = .ok (.invokevirtual 282, 3) := by decide +kernel
theorem d_OG_wills_30 : decode og_c_OG_wills 30 = .ok (.goto 4, 3) := by decide +kernel
theorem d_OG_wills_33 : decode og_c_OG_wills 33 = .ok (.iconst (-1), 1) := by decide +kernel
theorem d_OG_wills_34 : decode og_c_OG_wills 34 = .ok (.ireturn, 1) := by decide +kernel
def m_OG_wills : og_Dn := og_den [5, 0] 2 0 (og_ret (og_ei (og_cb (og_call m_Yard_lives [og_fix (fun _ => 100) (og_loc 0), og_loc 1])) (og_call m_Outlook_willsOf [og_fix (fun _ => 10) (og_loc 0), og_fix (fun i => i + 2) (og_get 15 (og_loc 0)), og_fix (fun _ => 100) (og_loc 0), og_loc 1]) (og_k (-1))))
set_option maxRecDepth 20000 in
theorem ok_OG_wills : og_MOK og_y_OG_wills og_c_OG_wills 2 0 8 [5, 0] m_OG_wills := og_method (b := 0) (lt' := []) (by decide +kernel) (by decide) (by decide) (og_sreti (og_eite (og_cbeq (tgt := 33) (og_callVz (og_acons (og_f_OG_now (og_aload_n (i := 0) (t := 3) (j := 0) (by rfl) (by rfl) d_OG_wills_0) og_w397 d_OG_wills_1) (og_acons (og_iload_n (i := 1) (j := 1) (by rfl) (by rfl) d_OG_wills_4) (og_anil))) (by decide) ok_Yard_lives (v_Yard_lives (by decide)) og_w788 d_OG_wills_5) d_OG_wills_8 (by decide)) (og_callVi (og_acons (og_f_OG_outlook (og_aload_n (i := 0) (t := 3) (j := 0) (by rfl) (by rfl) d_OG_wills_11) og_w394 d_OG_wills_12) (og_acons (og_f_Parish_rules_N (og_f_OG_told (og_aload_n (i := 0) (t := 3) (j := 0) (by rfl) (by rfl) d_OG_wills_15) og_w404 d_OG_wills_16) og_w150 d_OG_wills_19) (og_acons (og_f_OG_now (og_aload_n (i := 0) (t := 3) (j := 0) (by rfl) (by rfl) d_OG_wills_22) og_w397 d_OG_wills_23) (og_acons (og_iload_n (i := 1) (j := 1) (by rfl) (by rfl) d_OG_wills_26) (og_anil))))) (by decide) ok_Outlook_willsOf (v_Outlook_willsOf (by decide)) og_w981 d_OG_wills_27) d_OG_wills_30 (by decide) (og_iconst (by decide) d_OG_wills_33)) d_OG_wills_34) (fun h => by cases h)
abbrev og_c_Outlook_addFillings : ByteArray := prog_4_method_16_code
abbrev og_y_Outlook_addFillings : MethodName := ⟨"OpenGraves$Outlook", "addFillings", "(I)V"⟩
theorem v_Outlook_addFillings {own : String} {idx dep : Nat} (h : 2 + 1 ≤ dep) : og_sV own idx og_y_Outlook_addFillings og_c_Outlook_addFillings 3 2 2 dep 7 1 := ⟨⟨6, og_sl_Outlook, og_T_Outlook, 9, rfl, by decide, rfl⟩, og_w1005, (og_memP (⟨"OpenGraves$Outlook", "addFillings", "(I)V"⟩, 9) (List.mem_of_getElem? (i := 43) (by decide +kernel))), og_w14, og_w1006, ⟨by decide +kernel, by decide +kernel, by decide +kernel⟩, h, by decide⟩
theorem d_Outlook_addFillings_0 : decode og_c_Outlook_addFillings 0 = .ok (.iconst 0, 1) := by decide +kernel
theorem d_Outlook_addFillings_1 : decode og_c_Outlook_addFillings 1 = .ok (.istore_n 2, 1) := by decide +kernel
theorem d_Outlook_addFillings_2 : decode og_c_Outlook_addFillings 2 = .ok (.iload_n 2, 1) := by decide +kernel
theorem d_Outlook_addFillings_3 : decode og_c_Outlook_addFillings 3 = .ok (.aload_n 0, 1) := by decide +kernel
theorem d_Outlook_addFillings_4 : decode og_c_Outlook_addFillings 4 = .ok (.getfield 22, 3) := by decide +kernel
theorem d_Outlook_addFillings_7 : decode og_c_Outlook_addFillings 7 = .ok (.getfield 83, 3) := by decide +kernel
theorem d_Outlook_addFillings_10 : decode og_c_Outlook_addFillings 10 = .ok (.if_icmp .ge 32, 3) := by decide +kernel
theorem d_Outlook_addFillings_13 : decode og_c_Outlook_addFillings 13 = .ok (.aload_n 0, 1) := by decide +kernel
theorem d_Outlook_addFillings_14 : decode og_c_Outlook_addFillings 14 = .ok (.getfield 22, 3) := by decide +kernel
theorem d_Outlook_addFillings_17 : decode og_c_Outlook_addFillings 17 = .ok (.iload_n 2, 1) := by decide +kernel
theorem d_Outlook_addFillings_18 : decode og_c_Outlook_addFillings 18 = .ok (.invokevirtual 70, 3) := by decide +kernel
theorem d_Outlook_addFillings_21 : decode og_c_Outlook_addFillings 21 = .ok (.ifCond .eq 15, 3) := by decide +kernel
theorem d_Outlook_addFillings_24 : decode og_c_Outlook_addFillings 24 = .ok (.aload_n 0, 1) := by decide +kernel
theorem d_Outlook_addFillings_25 : decode og_c_Outlook_addFillings 25 = .ok (.getfield 39, 3) := by decide +kernel
theorem d_Outlook_addFillings_28 : decode og_c_Outlook_addFillings 28 = .ok (.iload_n 1, 1) := by decide +kernel
theorem d_Outlook_addFillings_29 : decode og_c_Outlook_addFillings 29 = .ok (.iload_n 2, 1) := by decide +kernel
theorem d_Outlook_addFillings_30 : decode og_c_Outlook_addFillings 30 = .ok (.iadd, 1) := by decide +kernel
theorem d_Outlook_addFillings_31 : decode og_c_Outlook_addFillings 31 = .ok (.dup2, 1) := by decide +kernel
theorem d_Outlook_addFillings_32 : decode og_c_Outlook_addFillings 32 = .ok (.iaload, 1) := by decide +kernel
theorem d_Outlook_addFillings_33 : decode og_c_Outlook_addFillings 33 = .ok (.iconst 1, 1) := by decide +kernel
theorem d_Outlook_addFillings_34 : decode og_c_Outlook_addFillings 34 = .ok (.iadd, 1) := by decide +kernel
theorem d_Outlook_addFillings_35 : decode og_c_Outlook_addFillings 35 = .ok (.iastore, 1) := by decide +kernel
theorem d_Outlook_addFillings_36 : decode og_c_Outlook_addFillings 36 = .ok (.iinc 2 1, 3) := by decide +kernel
theorem d_Outlook_addFillings_39 : decode og_c_Outlook_addFillings 39 = .ok (.goto (-37), 3) := by decide +kernel
theorem d_Outlook_addFillings_42 : decode og_c_Outlook_addFillings 42 = .ok (.return_, 1) := by decide +kernel
def m_Outlook_addFillings : og_Dn := og_den [11, 0] 3 2 (og_seq (og_set 2 (og_k 0)) (og_while (og_cc og_rlt (og_loc 2) (og_get 0 (og_fix (fun _ => 110) (og_loc 0)))) (og_if (og_cb (og_call m_Yard_isFilled [og_fix (fun _ => 110) (og_loc 0), og_loc 2])) (og_aop og_padd 180 (og_fix (fun _ => 15) (og_loc 0)) (og_add (og_loc 1) (og_loc 2)) (og_k 1)) (og_skip)) (og_inc 2 1)))
set_option maxRecDepth 20000 in
theorem ok_Outlook_addFillings : og_MOK og_y_Outlook_addFillings og_c_Outlook_addFillings 3 2 2 [11, 0] m_Outlook_addFillings := og_method (b := 42) (lt' := [(0, 11), (1, 0)]) (by decide +kernel) (by decide) (by decide) (og_sdrop (lt' := [(0, 11), (1, 0), (2, 0)]) (lt2 := [(0, 11), (1, 0)]) (og_sseq (og_istore_n (i := 2) (lt' := [(0, 11), (1, 0), (2, 0)]) (og_iconst (by decide) d_Outlook_addFillings_0) (by rfl) (by decide) (by decide) d_Outlook_addFillings_1) (og_swhile (T := 13) (F := 42) (cp0 := 36) (og_ccn og_n_lt (og_ige (tgt := 42) (og_iload_n (i := 2) (j := 2) (by rfl) (by rfl) d_Outlook_addFillings_2) (og_f_Yard_graves_N (og_f_Outlook_trial (og_aload_n (i := 0) (t := 9) (j := 0) (by rfl) (by rfl) d_Outlook_addFillings_3) og_w319 d_Outlook_addFillings_4) og_w46 d_Outlook_addFillings_7) d_Outlook_addFillings_10 (by decide))) (og_sif (T := 24) (F := 36) (og_cbeq (tgt := 36) (og_callVz (og_acons (og_f_Outlook_trial (og_aload_n (i := 0) (t := 9) (j := 0) (by rfl) (by rfl) d_Outlook_addFillings_13) og_w319 d_Outlook_addFillings_14) (og_acons (og_iload_n (i := 2) (j := 2) (by rfl) (by rfl) d_Outlook_addFillings_17) (og_anil))) (by decide) ok_Yard_isFilled (v_Yard_isFilled (by decide)) og_w880 d_Outlook_addFillings_18) d_Outlook_addFillings_21 (by decide)) (og_aadd (N := 180) (og_f_Outlook_fillings (og_aload_n (i := 0) (t := 9) (j := 0) (by rfl) (by rfl) d_Outlook_addFillings_24) og_w329 d_Outlook_addFillings_25) (by rfl) (og_iadd (og_iload_n (i := 1) (j := 1) (by rfl) (by rfl) d_Outlook_addFillings_28) (og_iload_n (i := 2) (j := 2) (by rfl) (by rfl) d_Outlook_addFillings_29) d_Outlook_addFillings_30) d_Outlook_addFillings_31 d_Outlook_addFillings_32 (og_iconst (by decide) d_Outlook_addFillings_33) d_Outlook_addFillings_34 d_Outlook_addFillings_35) (og_sskip)) (og_gS (b' := 2) (og_iinc (j := 2) (lt' := [(0, 11), (1, 0), (2, 0)]) (by rfl) (by decide) (by decide) d_Outlook_addFillings_36) d_Outlook_addFillings_39 (by decide)))) (by decide)) (fun _ => d_Outlook_addFillings_42)
abbrev og_c_Outlook_countFillings : ByteArray := prog_4_method_15_code
abbrev og_y_Outlook_countFillings : MethodName := ⟨"OpenGraves$Outlook", "countFillings", "(LOpenGraves$Script;LOpenGraves$Yard;II)V"⟩
theorem v_Outlook_countFillings {own : String} {idx dep : Nat} (h : 6 + 1 ≤ dep) : og_sV own idx og_y_Outlook_countFillings og_c_Outlook_countFillings 8 2 6 dep 7 4 := ⟨⟨6, og_sl_Outlook, og_T_Outlook, 9, rfl, by decide, rfl⟩, og_w1000, og_w1001, og_w14, og_w1002, ⟨by decide +kernel, by decide +kernel, by decide +kernel⟩, h, by decide⟩
theorem d_Outlook_countFillings_0 : decode og_c_Outlook_countFillings 0 = .ok (.iconst 0, 1) := by decide +kernel
theorem d_Outlook_countFillings_1 : decode og_c_Outlook_countFillings 1 = .ok (.istore 5, 2) := by decide +kernel
theorem d_Outlook_countFillings_3 : decode og_c_Outlook_countFillings 3 = .ok (.iload 5, 2) := by decide +kernel
theorem d_Outlook_countFillings_5 : decode og_c_Outlook_countFillings 5 = .ok (.aload_n 0, 1) := by decide +kernel
theorem d_Outlook_countFillings_6 : decode og_c_Outlook_countFillings 6 = .ok (.getfield 39, 3) := by decide +kernel
theorem d_Outlook_countFillings_9 : decode og_c_Outlook_countFillings 9 = .ok (.arraylength, 1) := by decide +kernel
theorem d_Outlook_countFillings_10 : decode og_c_Outlook_countFillings 10 = .ok (.if_icmp .ge 17, 3) := by decide +kernel
theorem d_Outlook_countFillings_13 : decode og_c_Outlook_countFillings 13 = .ok (.aload_n 0, 1) := by decide +kernel
theorem d_Outlook_countFillings_14 : decode og_c_Outlook_countFillings 14 = .ok (.getfield 39, 3) := by decide +kernel
theorem d_Outlook_countFillings_17 : decode og_c_Outlook_countFillings 17 = .ok (.iload 5, 2) := by decide +kernel
theorem d_Outlook_countFillings_19 : decode og_c_Outlook_countFillings 19 = .ok (.iconst 0, 1) := by decide +kernel
theorem d_Outlook_countFillings_20 : decode og_c_Outlook_countFillings 20 = .ok (.iastore, 1) := by decide +kernel
theorem d_Outlook_countFillings_21 : decode og_c_Outlook_countFillings 21 = .ok (.iinc 5 1, 3) := by decide +kernel
theorem d_Outlook_countFillings_24 : decode og_c_Outlook_countFillings 24 = .ok (.goto (-21), 3) := by decide +kernel
theorem d_Outlook_countFillings_27 : decode og_c_Outlook_countFillings 27 = .ok (.bipush 30, 2) := by decide +kernel
theorem d_Outlook_countFillings_29 : decode og_c_Outlook_countFillings 29 = .ok (.sipush 999, 3) := by decide +kernel
theorem d_Outlook_countFillings_32 : decode og_c_Outlook_countFillings 32 = .ok (.aload_n 2, 1) := by decide +kernel
theorem d_Outlook_countFillings_33 : decode og_c_Outlook_countFillings 33 = .ok (.getfield 60, 3) := by decide +kernel
theorem d_Outlook_countFillings_36 : decode og_c_Outlook_countFillings 36 = .ok (.isub, 1) := by decide +kernel
theorem d_Outlook_countFillings_37 : decode og_c_Outlook_countFillings 37 = .ok (.invokestatic 64, 3) := by decide +kernel
theorem d_Outlook_countFillings_40 : decode og_c_Outlook_countFillings 40 = .ok (.istore 5, 2) := by decide +kernel
theorem d_Outlook_countFillings_42 : decode og_c_Outlook_countFillings 42 = .ok (.iconst 0, 1) := by decide +kernel
theorem d_Outlook_countFillings_43 : decode og_c_Outlook_countFillings 43 = .ok (.istore 6, 2) := by decide +kernel
theorem d_Outlook_countFillings_45 : decode og_c_Outlook_countFillings 45 = .ok (.iload 6, 2) := by decide +kernel
theorem d_Outlook_countFillings_47 : decode og_c_Outlook_countFillings 47 = .ok (.bipush 9, 2) := by decide +kernel
theorem d_Outlook_countFillings_49 : decode og_c_Outlook_countFillings 49 = .ok (.if_icmp .gt 77, 3) := by decide +kernel
theorem d_Outlook_countFillings_52 : decode og_c_Outlook_countFillings 52 = .ok (.iload 4, 2) := by decide +kernel
theorem d_Outlook_countFillings_54 : decode og_c_Outlook_countFillings 54 = .ok (.iload 6, 2) := by decide +kernel
theorem d_Outlook_countFillings_56 : decode og_c_Outlook_countFillings 56 = .ok (.ishr, 1) := by decide +kernel
theorem d_Outlook_countFillings_57 : decode og_c_Outlook_countFillings 57 = .ok (.iconst 1, 1) := by decide +kernel
theorem d_Outlook_countFillings_58 : decode og_c_Outlook_countFillings 58 = .ok (.iand, 1) := by decide +kernel
theorem d_Outlook_countFillings_59 : decode og_c_Outlook_countFillings 59 = .ok (.iconst 1, 1) := by decide +kernel
theorem d_Outlook_countFillings_60 : decode og_c_Outlook_countFillings 60 = .ok (.if_icmp .ne 60, 3) := by decide +kernel
theorem d_Outlook_countFillings_63 : decode og_c_Outlook_countFillings 63 = .ok (.aload_n 0, 1) := by decide +kernel
theorem d_Outlook_countFillings_64 : decode og_c_Outlook_countFillings 64 = .ok (.getfield 22, 3) := by decide +kernel
theorem d_Outlook_countFillings_67 : decode og_c_Outlook_countFillings 67 = .ok (.aload_n 2, 1) := by decide +kernel
theorem d_Outlook_countFillings_68 : decode og_c_Outlook_countFillings 68 = .ok (.invokevirtual 42, 3) := by decide +kernel
theorem d_Outlook_countFillings_71 : decode og_c_Outlook_countFillings 71 = .ok (.aload_n 0, 1) := by decide +kernel
theorem d_Outlook_countFillings_72 : decode og_c_Outlook_countFillings 72 = .ok (.getfield 22, 3) := by decide +kernel
theorem d_Outlook_countFillings_75 : decode og_c_Outlook_countFillings 75 = .ok (.getfield 74, 3) := by decide +kernel
theorem d_Outlook_countFillings_78 : decode og_c_Outlook_countFillings 78 = .ok (.iload_n 3, 1) := by decide +kernel
theorem d_Outlook_countFillings_79 : decode og_c_Outlook_countFillings 79 = .ok (.iload 6, 2) := by decide +kernel
theorem d_Outlook_countFillings_81 : decode og_c_Outlook_countFillings 81 = .ok (.iastore, 1) := by decide +kernel
theorem d_Outlook_countFillings_82 : decode og_c_Outlook_countFillings 82 = .ok (.iconst 0, 1) := by decide +kernel
theorem d_Outlook_countFillings_83 : decode og_c_Outlook_countFillings 83 = .ok (.istore 7, 2) := by decide +kernel
theorem d_Outlook_countFillings_85 : decode og_c_Outlook_countFillings 85 = .ok (.iload 7, 2) := by decide +kernel
theorem d_Outlook_countFillings_87 : decode og_c_Outlook_countFillings 87 = .ok (.iload 5, 2) := by decide +kernel
theorem d_Outlook_countFillings_89 : decode og_c_Outlook_countFillings 89 = .ok (.if_icmp .ge 31, 3) := by decide +kernel
theorem d_Outlook_countFillings_92 : decode og_c_Outlook_countFillings 92 = .ok (.aload_n 0, 1) := by decide +kernel
theorem d_Outlook_countFillings_93 : decode og_c_Outlook_countFillings 93 = .ok (.getfield 9, 3) := by decide +kernel
theorem d_Outlook_countFillings_96 : decode og_c_Outlook_countFillings 96 = .ok (.aload_n 1, 1) := by decide +kernel
theorem d_Outlook_countFillings_97 : decode og_c_Outlook_countFillings 97 = .ok (.aload_n 0, 1) := by decide +kernel
theorem d_Outlook_countFillings_98 : decode og_c_Outlook_countFillings 98 = .ok (.getfield 22, 3) := by decide +kernel
theorem d_Outlook_countFillings_101 : decode og_c_Outlook_countFillings 101 = .ok (.invokevirtual 54, 3) := by decide +kernel
theorem d_Outlook_countFillings_104 : decode og_c_Outlook_countFillings 104 = .ok (.pop, 1) := by decide +kernel
theorem d_Outlook_countFillings_105 : decode og_c_Outlook_countFillings 105 = .ok (.aload_n 0, 1) := by decide +kernel
theorem d_Outlook_countFillings_106 : decode og_c_Outlook_countFillings 106 = .ok (.bipush 6, 2) := by decide +kernel
theorem d_Outlook_countFillings_108 : decode og_c_Outlook_countFillings 108 = .ok (.iload 7, 2) := by decide +kernel
theorem d_Outlook_countFillings_110 : decode og_c_Outlook_countFillings 110 = .ok (.imul, 1) := by decide +kernel
theorem d_Outlook_countFillings_111 : decode og_c_Outlook_countFillings 111 = .ok (.invokevirtual 145, 3) := by decide +kernel
theorem d_Outlook_countFillings_114 : decode og_c_Outlook_countFillings 114 = .ok (.iinc 7 1, 3) := by decide +kernel
theorem d_Outlook_countFillings_117 : decode og_c_Outlook_countFillings 117 = .ok (.goto (-32), 3) := by decide +kernel
theorem d_Outlook_countFillings_120 : decode og_c_Outlook_countFillings 120 = .ok (.iinc 6 1, 3) := by decide +kernel
theorem d_Outlook_countFillings_123 : decode og_c_Outlook_countFillings 123 = .ok (.goto (-78), 3) := by decide +kernel
theorem d_Outlook_countFillings_126 : decode og_c_Outlook_countFillings 126 = .ok (.return_, 1) := by decide +kernel
def m_Outlook_countFillings : og_Dn := og_den [11, 15, 16, 0, 0] 8 2 (og_cut (og_seq (og_set 5 (og_k 0)) (og_while (og_cc og_rlt (og_loc 5) (og_len 180 (og_fix (fun _ => 15) (og_loc 0)))) (og_ast 180 (og_fix (fun _ => 15) (og_loc 0)) (og_loc 5) (og_k 0)) (og_inc 5 1))) (og_seq (og_set 5 (og_min (og_k 30) (og_sub (og_k 999) (og_get 2 (og_loc 2))))) (og_seq (og_set 6 (og_k 0)) (og_while (og_cc og_rle (og_loc 6) (og_k 9)) (og_if (og_cc og_req (og_bop og_oand (og_bop og_oshr (og_loc 4) (og_loc 6)) (og_k 1)) (og_k 1)) (og_seq (og_exp (og_call m_Yard_become [og_fix (fun _ => 110) (og_loc 0), og_loc 2])) (og_seq (og_ast 8 (og_fix (fun i => i + 7) (og_fix (fun _ => 110) (og_loc 0))) (og_loc 3) (og_loc 6)) (og_seq (og_set 7 (og_k 0)) (og_while (og_cc og_rlt (og_loc 7) (og_loc 5)) (og_seq (og_exp (og_call m_Almanac_pass [og_fix (fun _ => 8) (og_loc 0), og_loc 1, og_fix (fun _ => 110) (og_loc 0)])) (og_exp (og_call m_Outlook_addFillings [og_loc 0, og_mul (og_k 6) (og_loc 7)]))) (og_inc 7 1))))) (og_skip)) (og_inc 6 1)))))
set_option maxRecDepth 20000 in
theorem ok_Outlook_countFillings : og_MOK og_y_Outlook_countFillings og_c_Outlook_countFillings 8 2 6 [11, 15, 16, 0, 0] m_Outlook_countFillings := og_method (b := 126) (lt' := [(0, 11), (1, 15), (2, 16), (3, 0), (4, 0)]) (by decide +kernel) (by decide) (by decide) (og_sdrop (lt' := [(0, 11), (1, 15), (2, 16), (3, 0), (4, 0), (5, 0)]) (lt2 := [(0, 11), (1, 15), (2, 16), (3, 0), (4, 0)]) (og_scut (og_sdrop (lt' := [(0, 11), (1, 15), (2, 16), (3, 0), (4, 0), (5, 0)]) (lt2 := [(0, 11), (1, 15), (2, 16), (3, 0), (4, 0)]) (og_sseq (og_istore (i := 5) (lt' := [(0, 11), (1, 15), (2, 16), (3, 0), (4, 0), (5, 0)]) (og_iconst (by decide) d_Outlook_countFillings_0) (by decide) (by decide) d_Outlook_countFillings_1) (og_swhile (T := 13) (F := 27) (cp0 := 21) (og_ccn og_n_lt (og_ige (tgt := 27) (og_iload (i := 5) (j := 5) (by rfl) d_Outlook_countFillings_3) (og_alen (N := 180) (et := 0) (og_f_Outlook_fillings (og_aload_n (i := 0) (t := 9) (j := 0) (by rfl) (by rfl) d_Outlook_countFillings_5) og_w329 d_Outlook_countFillings_6) (by rfl) (by decide) d_Outlook_countFillings_9) d_Outlook_countFillings_10 (by decide))) (og_iastore (N := 180) (og_f_Outlook_fillings (og_aload_n (i := 0) (t := 9) (j := 0) (by rfl) (by rfl) d_Outlook_countFillings_13) og_w329 d_Outlook_countFillings_14) (by rfl) (og_iload (i := 5) (j := 5) (by rfl) d_Outlook_countFillings_17) (og_iconst (by decide) d_Outlook_countFillings_19) d_Outlook_countFillings_20) (og_gS (b' := 3) (og_iinc (j := 5) (lt' := [(0, 11), (1, 15), (2, 16), (3, 0), (4, 0), (5, 0)]) (by rfl) (by decide) (by decide) d_Outlook_countFillings_21) d_Outlook_countFillings_24 (by decide)))) (by decide)) (og_sseq (og_istore (i := 5) (lt' := [(0, 11), (1, 15), (2, 16), (3, 0), (4, 0), (5, 0)]) (og_imin (og_bipush (by decide) d_Outlook_countFillings_27) (og_isub (og_sipush (by decide) d_Outlook_countFillings_29) (og_f_Yard_month_N (og_aload_n (i := 2) (t := 14) (j := 2) (by rfl) (by rfl) d_Outlook_countFillings_32) og_w56 d_Outlook_countFillings_33) d_Outlook_countFillings_36) (by decide) (by decide) og_w879 og_w747 og_w19 og_w748 d_Outlook_countFillings_37) (by decide) (by decide) d_Outlook_countFillings_40) (og_sdrop (lt' := [(0, 11), (1, 15), (2, 16), (3, 0), (4, 0), (5, 0), (6, 0)]) (lt2 := [(0, 11), (1, 15), (2, 16), (3, 0), (4, 0), (5, 0)]) (og_sseq (og_istore (i := 6) (lt' := [(0, 11), (1, 15), (2, 16), (3, 0), (4, 0), (5, 0), (6, 0)]) (og_iconst (by decide) d_Outlook_countFillings_42) (by decide) (by decide) d_Outlook_countFillings_43) (og_swhile (T := 52) (F := 126) (cp0 := 120) (og_ccn og_n_le (og_igt (tgt := 126) (og_iload (i := 6) (j := 6) (by rfl) d_Outlook_countFillings_45) (og_bipush (by decide) d_Outlook_countFillings_47) d_Outlook_countFillings_49 (by decide))) (og_sif (T := 63) (F := 120) (og_ccn og_n_eq (og_ine (tgt := 120) (og_iand (og_ishr (og_iload (i := 4) (j := 4) (by rfl) d_Outlook_countFillings_52) (og_iload (i := 6) (j := 6) (by rfl) d_Outlook_countFillings_54) d_Outlook_countFillings_56) (og_iconst (by decide) d_Outlook_countFillings_57) d_Outlook_countFillings_58) (og_iconst (by decide) d_Outlook_countFillings_59) d_Outlook_countFillings_60 (by decide))) (og_sseq (og_callVv (og_acons (og_f_Outlook_trial (og_aload_n (i := 0) (t := 9) (j := 0) (by rfl) (by rfl) d_Outlook_countFillings_63) og_w319 d_Outlook_countFillings_64) (og_acons (og_aload_n (i := 2) (t := 14) (j := 2) (by rfl) (by rfl) d_Outlook_countFillings_67) (og_anil))) ok_Yard_become (v_Yard_become (by decide)) og_w821 d_Outlook_countFillings_68) (og_sseq (og_iastore (N := 8) (og_f_Yard_will_N (og_f_Outlook_trial (og_aload_n (i := 0) (t := 9) (j := 0) (by rfl) (by rfl) d_Outlook_countFillings_71) og_w319 d_Outlook_countFillings_72) og_w88 d_Outlook_countFillings_75) (by rfl) (og_iload_n (i := 3) (j := 3) (by rfl) (by rfl) d_Outlook_countFillings_78) (og_iload (i := 6) (j := 6) (by rfl) d_Outlook_countFillings_79) d_Outlook_countFillings_81) (og_sdrop (lt' := [(0, 11), (1, 15), (2, 16), (3, 0), (4, 0), (5, 0), (6, 0), (7, 0)]) (lt2 := [(0, 11), (1, 15), (2, 16), (3, 0), (4, 0), (5, 0), (6, 0)]) (og_sseq (og_istore (i := 7) (lt' := [(0, 11), (1, 15), (2, 16), (3, 0), (4, 0), (5, 0), (6, 0), (7, 0)]) (og_iconst (by decide) d_Outlook_countFillings_82) (by decide) (by decide) d_Outlook_countFillings_83) (og_swhile (T := 92) (F := 120) (cp0 := 114) (og_ccn og_n_lt (og_ige (tgt := 120) (og_iload (i := 7) (j := 7) (by rfl) d_Outlook_countFillings_85) (og_iload (i := 5) (j := 5) (by rfl) d_Outlook_countFillings_87) d_Outlook_countFillings_89 (by decide))) (og_sseq (og_spop (og_callVi (og_acons (og_f_Outlook_almanac (og_aload_n (i := 0) (t := 9) (j := 0) (by rfl) (by rfl) d_Outlook_countFillings_92) og_w317 d_Outlook_countFillings_93) (og_acons (og_aload_n (i := 1) (t := 13) (j := 1) (by rfl) (by rfl) d_Outlook_countFillings_96) (og_acons (og_f_Outlook_trial (og_aload_n (i := 0) (t := 9) (j := 0) (by rfl) (by rfl) d_Outlook_countFillings_97) og_w319 d_Outlook_countFillings_98) (og_anil)))) (by decide) ok_Almanac_pass (v_Almanac_pass (by decide)) og_w827 d_Outlook_countFillings_101) d_Outlook_countFillings_104) (og_callVv (og_acons (og_aload_n (i := 0) (t := 9) (j := 0) (by rfl) (by rfl) d_Outlook_countFillings_105) (og_acons (og_imul (og_bipush (by decide) d_Outlook_countFillings_106) (og_iload (i := 7) (j := 7) (by rfl) d_Outlook_countFillings_108) d_Outlook_countFillings_110) (og_anil))) ok_Outlook_addFillings (v_Outlook_addFillings (by decide)) og_w1003 d_Outlook_countFillings_111)) (og_gS (b' := 85) (og_iinc (j := 7) (lt' := [(0, 11), (1, 15), (2, 16), (3, 0), (4, 0), (5, 0), (6, 0), (7, 0)]) (by rfl) (by decide) (by decide) d_Outlook_countFillings_114) d_Outlook_countFillings_117 (by decide)))) (by decide)))) (og_sskip)) (og_gS (b' := 45) (og_iinc (j := 6) (lt' := [(0, 11), (1, 15), (2, 16), (3, 0), (4, 0), (5, 0), (6, 0)]) (by rfl) (by decide) (by decide) d_Outlook_countFillings_120) d_Outlook_countFillings_123 (by decide)))) (by decide)))) (by decide)) (fun _ => d_Outlook_countFillings_126)
