abbrev og_c_J_bitCount : ByteArray := prog_15_method_49_code
abbrev og_y_J_bitCount : MethodName := ⟨"java/lang/Integer", "bitCount", "(I)I"⟩
theorem v_J_bitCount {dep : Nat} (h : 1 + 1 ≤ dep) : og_sS og_y_J_bitCount og_c_J_bitCount 1 0 1 dep 1 := ⟨og_w1008, og_w20, og_w1009, ⟨by decide +kernel, by decide +kernel, by decide +kernel⟩, h, by decide⟩
theorem d_J_bitCount_0 : decode og_c_J_bitCount 0 = .ok (.iload_n 0, 1) := by decide +kernel
theorem d_J_bitCount_1 : decode og_c_J_bitCount 1 = .ok (.iload_n 0, 1) := by decide +kernel
theorem d_J_bitCount_2 : decode og_c_J_bitCount 2 = .ok (.iconst 1, 1) := by decide +kernel
theorem d_J_bitCount_3 : decode og_c_J_bitCount 3 = .ok (.iushr, 1) := by decide +kernel
theorem d_J_bitCount_4 : decode og_c_J_bitCount 4 = .ok (.ldc_w 265, 3) := by decide +kernel
theorem d_J_bitCount_7 : decode og_c_J_bitCount 7 = .ok (.iand, 1) := by decide +kernel
theorem d_J_bitCount_8 : decode og_c_J_bitCount 8 = .ok (.isub, 1) := by decide +kernel
theorem d_J_bitCount_9 : decode og_c_J_bitCount 9 = .ok (.istore_n 0, 1) := by decide +kernel
theorem d_J_bitCount_10 : decode og_c_J_bitCount 10 = .ok (.iload_n 0, 1) := by decide +kernel
theorem d_J_bitCount_11 : decode og_c_J_bitCount 11 = .ok (.ldc_w 266, 3) := by decide +kernel
theorem d_J_bitCount_14 : decode og_c_J_bitCount 14 = .ok (.iand, 1) := by decide +kernel
theorem d_J_bitCount_15 : decode og_c_J_bitCount 15 = .ok (.iload_n 0, 1) := by decide +kernel
theorem d_J_bitCount_16 : decode og_c_J_bitCount 16 = .ok (.iconst 2, 1) := by decide +kernel
theorem d_J_bitCount_17 : decode og_c_J_bitCount 17 = .ok (.iushr, 1) := by decide +kernel
theorem d_J_bitCount_18 : decode og_c_J_bitCount 18 = .ok (.ldc_w 266, 3) := by decide +kernel
theorem d_J_bitCount_21 : decode og_c_J_bitCount 21 = .ok (.iand, 1) := by decide +kernel
theorem d_J_bitCount_22 : decode og_c_J_bitCount 22 = .ok (.iadd, 1) := by decide +kernel
theorem d_J_bitCount_23 : decode og_c_J_bitCount 23 = .ok (.istore_n 0, 1) := by decide +kernel
theorem d_J_bitCount_24 : decode og_c_J_bitCount 24 = .ok (.iload_n 0, 1) := by decide +kernel
theorem d_J_bitCount_25 : decode og_c_J_bitCount 25 = .ok (.iload_n 0, 1) := by decide +kernel
theorem d_J_bitCount_26 : decode og_c_J_bitCount 26 = .ok (.iconst 4, 1) := by decide +kernel
theorem d_J_bitCount_27 : decode og_c_J_bitCount 27 = .ok (.iushr, 1) := by decide +kernel
theorem d_J_bitCount_28 : decode og_c_J_bitCount 28 = .ok (.iadd, 1) := by decide +kernel
theorem d_J_bitCount_29 : decode og_c_J_bitCount 29 = .ok (.ldc_w 267, 3) := by decide +kernel
theorem d_J_bitCount_32 : decode og_c_J_bitCount 32 = .ok (.iand, 1) := by decide +kernel
theorem d_J_bitCount_33 : decode og_c_J_bitCount 33 = .ok (.istore_n 0, 1) := by decide +kernel
theorem d_J_bitCount_34 : decode og_c_J_bitCount 34 = .ok (.iload_n 0, 1) := by decide +kernel
theorem d_J_bitCount_35 : decode og_c_J_bitCount 35 = .ok (.iload_n 0, 1) := by decide +kernel
theorem d_J_bitCount_36 : decode og_c_J_bitCount 36 = .ok (.bipush 8, 2) := by decide +kernel
theorem d_J_bitCount_38 : decode og_c_J_bitCount 38 = .ok (.iushr, 1) := by decide +kernel
theorem d_J_bitCount_39 : decode og_c_J_bitCount 39 = .ok (.iadd, 1) := by decide +kernel
theorem d_J_bitCount_40 : decode og_c_J_bitCount 40 = .ok (.istore_n 0, 1) := by decide +kernel
theorem d_J_bitCount_41 : decode og_c_J_bitCount 41 = .ok (.iload_n 0, 1) := by decide +kernel
theorem d_J_bitCount_42 : decode og_c_J_bitCount 42 = .ok (.iload_n 0, 1) := by decide +kernel
theorem d_J_bitCount_43 : decode og_c_J_bitCount 43 = .ok (.bipush 16, 2) := by decide +kernel
theorem d_J_bitCount_45 : decode og_c_J_bitCount 45 = .ok (.iushr, 1) := by decide +kernel
theorem d_J_bitCount_46 : decode og_c_J_bitCount 46 = .ok (.iadd, 1) := by decide +kernel
theorem d_J_bitCount_47 : decode og_c_J_bitCount 47 = .ok (.istore_n 0, 1) := by decide +kernel
theorem d_J_bitCount_48 : decode og_c_J_bitCount 48 = .ok (.iload_n 0, 1) := by decide +kernel
theorem d_J_bitCount_49 : decode og_c_J_bitCount 49 = .ok (.bipush 63, 2) := by decide +kernel
theorem d_J_bitCount_51 : decode og_c_J_bitCount 51 = .ok (.iand, 1) := by decide +kernel
theorem d_J_bitCount_52 : decode og_c_J_bitCount 52 = .ok (.ireturn, 1) := by decide +kernel
def m_J_bitCount : og_Dn := og_den [0] 1 0 (og_seq (og_set 0 (og_sub (og_loc 0) (og_bop og_oand (og_bop og_oushr (og_loc 0) (og_k 1)) (og_k 1431655765)))) (og_seq (og_set 0 (og_add (og_bop og_oand (og_loc 0) (og_k 858993459)) (og_bop og_oand (og_bop og_oushr (og_loc 0) (og_k 2)) (og_k 858993459)))) (og_seq (og_set 0 (og_bop og_oand (og_add (og_loc 0) (og_bop og_oushr (og_loc 0) (og_k 4))) (og_k 252645135))) (og_seq (og_set 0 (og_add (og_loc 0) (og_bop og_oushr (og_loc 0) (og_k 8)))) (og_seq (og_set 0 (og_add (og_loc 0) (og_bop og_oushr (og_loc 0) (og_k 16)))) (og_ret (og_bop og_oand (og_loc 0) (og_k 63))))))))
set_option maxRecDepth 20000 in
theorem ok_J_bitCount : og_MOK og_y_J_bitCount og_c_J_bitCount 1 0 1 [0] m_J_bitCount := og_method (b := 0) (lt' := []) (by decide +kernel) (by decide) (by decide) (og_sseq (og_istore_n (i := 0) (lt' := [(0, 0)]) (og_isub (og_iload_n (i := 0) (j := 0) (by rfl) (by rfl) d_J_bitCount_0) (og_iand (og_iushr (og_iload_n (i := 0) (j := 0) (by rfl) (by rfl) d_J_bitCount_1) (og_iconst (by decide) d_J_bitCount_2) d_J_bitCount_3) (og_ldcw (x := 1431655765) (by decide) og_w1010 d_J_bitCount_4) d_J_bitCount_7) d_J_bitCount_8) (by rfl) (by decide) (by decide) d_J_bitCount_9) (og_sseq (og_istore_n (i := 0) (lt' := [(0, 0)]) (og_iadd (og_iand (og_iload_n (i := 0) (j := 0) (by rfl) (by rfl) d_J_bitCount_10) (og_ldcw (x := 858993459) (by decide) og_w1011 d_J_bitCount_11) d_J_bitCount_14) (og_iand (og_iushr (og_iload_n (i := 0) (j := 0) (by rfl) (by rfl) d_J_bitCount_15) (og_iconst (by decide) d_J_bitCount_16) d_J_bitCount_17) (og_ldcw (x := 858993459) (by decide) og_w1011 d_J_bitCount_18) d_J_bitCount_21) d_J_bitCount_22) (by rfl) (by decide) (by decide) d_J_bitCount_23) (og_sseq (og_istore_n (i := 0) (lt' := [(0, 0)]) (og_iand (og_iadd (og_iload_n (i := 0) (j := 0) (by rfl) (by rfl) d_J_bitCount_24) (og_iushr (og_iload_n (i := 0) (j := 0) (by rfl) (by rfl) d_J_bitCount_25) (og_iconst (by decide) d_J_bitCount_26) d_J_bitCount_27) d_J_bitCount_28) (og_ldcw (x := 252645135) (by decide) og_w1012 d_J_bitCount_29) d_J_bitCount_32) (by rfl) (by decide) (by decide) d_J_bitCount_33) (og_sseq (og_istore_n (i := 0) (lt' := [(0, 0)]) (og_iadd (og_iload_n (i := 0) (j := 0) (by rfl) (by rfl) d_J_bitCount_34) (og_iushr (og_iload_n (i := 0) (j := 0) (by rfl) (by rfl) d_J_bitCount_35) (og_bipush (by decide) d_J_bitCount_36) d_J_bitCount_38) d_J_bitCount_39) (by rfl) (by decide) (by decide) d_J_bitCount_40) (og_sseq (og_istore_n (i := 0) (lt' := [(0, 0)]) (og_iadd (og_iload_n (i := 0) (j := 0) (by rfl) (by rfl) d_J_bitCount_41) (og_iushr (og_iload_n (i := 0) (j := 0) (by rfl) (by rfl) d_J_bitCount_42) (og_bipush (by decide) d_J_bitCount_43) d_J_bitCount_45) d_J_bitCount_46) (by rfl) (by decide) (by decide) d_J_bitCount_47) (og_sreti (og_iand (og_iload_n (i := 0) (j := 0) (by rfl) (by rfl) d_J_bitCount_48) (og_bipush (by decide) d_J_bitCount_49) d_J_bitCount_51) d_J_bitCount_52)))))) (fun h => by cases h)
abbrev og_c_Outlook_mostLeft : ByteArray := prog_4_method_18_code
abbrev og_y_Outlook_mostLeft : MethodName := ⟨"OpenGraves$Outlook", "mostLeft", "(II)I"⟩
theorem v_Outlook_mostLeft {own : String} {idx dep : Nat} (h : 1 + 1 ≤ dep) : og_sV own idx og_y_Outlook_mostLeft og_c_Outlook_mostLeft 3 0 1 dep 7 2 := ⟨⟨6, og_sl_Outlook, og_T_Outlook, 9, rfl, by decide, rfl⟩, og_w1018, og_w1019, og_w14, og_w1020, ⟨by decide +kernel, by decide +kernel, by decide +kernel⟩, h, by decide⟩
theorem d_Outlook_mostLeft_0 : decode og_c_Outlook_mostLeft 0 = .ok (.aload_n 0, 1) := by decide +kernel
theorem d_Outlook_mostLeft_1 : decode og_c_Outlook_mostLeft 1 = .ok (.getfield 39, 3) := by decide +kernel
theorem d_Outlook_mostLeft_4 : decode og_c_Outlook_mostLeft 4 = .ok (.iload_n 1, 1) := by decide +kernel
theorem d_Outlook_mostLeft_5 : decode og_c_Outlook_mostLeft 5 = .ok (.iaload, 1) := by decide +kernel
theorem d_Outlook_mostLeft_6 : decode og_c_Outlook_mostLeft 6 = .ok (.iload_n 2, 1) := by decide +kernel
theorem d_Outlook_mostLeft_7 : decode og_c_Outlook_mostLeft 7 = .ok (.aload_n 0, 1) := by decide +kernel
theorem d_Outlook_mostLeft_8 : decode og_c_Outlook_mostLeft 8 = .ok (.getfield 39, 3) := by decide +kernel
theorem d_Outlook_mostLeft_11 : decode og_c_Outlook_mostLeft 11 = .ok (.iload_n 1, 1) := by decide +kernel
theorem d_Outlook_mostLeft_12 : decode og_c_Outlook_mostLeft 12 = .ok (.iaload, 1) := by decide +kernel
theorem d_Outlook_mostLeft_13 : decode og_c_Outlook_mostLeft 13 = .ok (.isub, 1) := by decide +kernel
theorem d_Outlook_mostLeft_14 : decode og_c_Outlook_mostLeft 14 = .ok (.invokestatic 136, 3) := by decide +kernel
theorem d_Outlook_mostLeft_17 : decode og_c_Outlook_mostLeft 17 = .ok (.ireturn, 1) := by decide +kernel
def m_Outlook_mostLeft : og_Dn := og_den [11, 0, 0] 3 0 (og_ret (og_max (og_ald 180 (og_fix (fun _ => 15) (og_loc 0)) (og_loc 1)) (og_sub (og_loc 2) (og_ald 180 (og_fix (fun _ => 15) (og_loc 0)) (og_loc 1)))))
set_option maxRecDepth 20000 in
theorem ok_Outlook_mostLeft : og_MOK og_y_Outlook_mostLeft og_c_Outlook_mostLeft 3 0 1 [11, 0, 0] m_Outlook_mostLeft := og_method (b := 0) (lt' := []) (by decide +kernel) (by decide) (by decide) (og_sreti (og_imax (og_iald (N := 180) (og_f_Outlook_fillings (og_aload_n (i := 0) (t := 9) (j := 0) (by rfl) (by rfl) d_Outlook_mostLeft_0) og_w329 d_Outlook_mostLeft_1) (by rfl) (og_iload_n (i := 1) (j := 1) (by rfl) (by rfl) d_Outlook_mostLeft_4) d_Outlook_mostLeft_5) (og_isub (og_iload_n (i := 2) (j := 2) (by rfl) (by rfl) d_Outlook_mostLeft_6) (og_iald (N := 180) (og_f_Outlook_fillings (og_aload_n (i := 0) (t := 9) (j := 0) (by rfl) (by rfl) d_Outlook_mostLeft_7) og_w329 d_Outlook_mostLeft_8) (by rfl) (og_iload_n (i := 1) (j := 1) (by rfl) (by rfl) d_Outlook_mostLeft_11) d_Outlook_mostLeft_12) d_Outlook_mostLeft_13) (by decide) (by decide) og_w989 og_w767 og_w19 og_w768 d_Outlook_mostLeft_14) d_Outlook_mostLeft_17) (fun h => by cases h)
abbrev og_c_Outlook_tellingCell : ByteArray := prog_4_method_17_code
abbrev og_y_Outlook_tellingCell : MethodName := ⟨"OpenGraves$Outlook", "tellingCell", "(LOpenGraves$Yard;I)I"⟩
theorem v_Outlook_tellingCell {own : String} {idx dep : Nat} (h : 2 + 1 ≤ dep) : og_sV own idx og_y_Outlook_tellingCell og_c_Outlook_tellingCell 7 0 2 dep 7 2 := ⟨⟨6, og_sl_Outlook, og_T_Outlook, 9, rfl, by decide, rfl⟩, og_w1014, og_w1015, og_w14, og_w1016, ⟨by decide +kernel, by decide +kernel, by decide +kernel⟩, h, by decide⟩
theorem d_Outlook_tellingCell_0 : decode og_c_Outlook_tellingCell 0 = .ok (.bipush 30, 2) := by decide +kernel
theorem d_Outlook_tellingCell_2 : decode og_c_Outlook_tellingCell 2 = .ok (.sipush 999, 3) := by decide +kernel
theorem d_Outlook_tellingCell_5 : decode og_c_Outlook_tellingCell 5 = .ok (.aload_n 1, 1) := by decide +kernel
theorem d_Outlook_tellingCell_6 : decode og_c_Outlook_tellingCell 6 = .ok (.getfield 60, 3) := by decide +kernel
theorem d_Outlook_tellingCell_9 : decode og_c_Outlook_tellingCell 9 = .ok (.isub, 1) := by decide +kernel
theorem d_Outlook_tellingCell_10 : decode og_c_Outlook_tellingCell 10 = .ok (.invokestatic 64, 3) := by decide +kernel
theorem d_Outlook_tellingCell_13 : decode og_c_Outlook_tellingCell 13 = .ok (.istore_n 3, 1) := by decide +kernel
theorem d_Outlook_tellingCell_14 : decode og_c_Outlook_tellingCell 14 = .ok (.iconst 0, 1) := by decide +kernel
theorem d_Outlook_tellingCell_15 : decode og_c_Outlook_tellingCell 15 = .ok (.istore 4, 2) := by decide +kernel
theorem d_Outlook_tellingCell_17 : decode og_c_Outlook_tellingCell 17 = .ok (.iconst 0, 1) := by decide +kernel
theorem d_Outlook_tellingCell_18 : decode og_c_Outlook_tellingCell 18 = .ok (.istore 5, 2) := by decide +kernel
theorem d_Outlook_tellingCell_20 : decode og_c_Outlook_tellingCell 20 = .ok (.iload 5, 2) := by decide +kernel
theorem d_Outlook_tellingCell_22 : decode og_c_Outlook_tellingCell 22 = .ok (.iload_n 3, 1) := by decide +kernel
theorem d_Outlook_tellingCell_23 : decode og_c_Outlook_tellingCell 23 = .ok (.if_icmp .ge 60, 3) := by decide +kernel
theorem d_Outlook_tellingCell_26 : decode og_c_Outlook_tellingCell 26 = .ok (.iconst 0, 1) := by decide +kernel
theorem d_Outlook_tellingCell_27 : decode og_c_Outlook_tellingCell 27 = .ok (.istore 6, 2) := by decide +kernel
theorem d_Outlook_tellingCell_29 : decode og_c_Outlook_tellingCell 29 = .ok (.iload 6, 2) := by decide +kernel
theorem d_Outlook_tellingCell_31 : decode og_c_Outlook_tellingCell 31 = .ok (.aload_n 1, 1) := by decide +kernel
theorem d_Outlook_tellingCell_32 : decode og_c_Outlook_tellingCell 32 = .ok (.getfield 83, 3) := by decide +kernel
theorem d_Outlook_tellingCell_35 : decode og_c_Outlook_tellingCell 35 = .ok (.if_icmp .ge 42, 3) := by decide +kernel
theorem d_Outlook_tellingCell_38 : decode og_c_Outlook_tellingCell 38 = .ok (.aload_n 0, 1) := by decide +kernel
theorem d_Outlook_tellingCell_39 : decode og_c_Outlook_tellingCell 39 = .ok (.bipush 6, 2) := by decide +kernel
theorem d_Outlook_tellingCell_41 : decode og_c_Outlook_tellingCell 41 = .ok (.iload 5, 2) := by decide +kernel
theorem d_Outlook_tellingCell_43 : decode og_c_Outlook_tellingCell 43 = .ok (.imul, 1) := by decide +kernel
theorem d_Outlook_tellingCell_44 : decode og_c_Outlook_tellingCell 44 = .ok (.iload 6, 2) := by decide +kernel
theorem d_Outlook_tellingCell_46 : decode og_c_Outlook_tellingCell 46 = .ok (.iadd, 1) := by decide +kernel
theorem d_Outlook_tellingCell_47 : decode og_c_Outlook_tellingCell 47 = .ok (.iload_n 2, 1) := by decide +kernel
theorem d_Outlook_tellingCell_48 : decode og_c_Outlook_tellingCell 48 = .ok (.invokevirtual 149, 3) := by decide +kernel
theorem d_Outlook_tellingCell_51 : decode og_c_Outlook_tellingCell 51 = .ok (.aload_n 0, 1) := by decide +kernel
theorem d_Outlook_tellingCell_52 : decode og_c_Outlook_tellingCell 52 = .ok (.iload 4, 2) := by decide +kernel
theorem d_Outlook_tellingCell_54 : decode og_c_Outlook_tellingCell 54 = .ok (.iload_n 2, 1) := by decide +kernel
theorem d_Outlook_tellingCell_55 : decode og_c_Outlook_tellingCell 55 = .ok (.invokevirtual 149, 3) := by decide +kernel
theorem d_Outlook_tellingCell_58 : decode og_c_Outlook_tellingCell 58 = .ok (.if_icmp .ge 13, 3) := by decide +kernel
theorem d_Outlook_tellingCell_61 : decode og_c_Outlook_tellingCell 61 = .ok (.bipush 6, 2) := by decide +kernel
theorem d_Outlook_tellingCell_63 : decode og_c_Outlook_tellingCell 63 = .ok (.iload 5, 2) := by decide +kernel
theorem d_Outlook_tellingCell_65 : decode og_c_Outlook_tellingCell 65 = .ok (.imul, 1) := by decide +kernel
theorem d_Outlook_tellingCell_66 : decode og_c_Outlook_tellingCell 66 = .ok (.iload 6, 2) := by decide +kernel
theorem d_Outlook_tellingCell_68 : decode og_c_Outlook_tellingCell 68 = .ok (.iadd, 1) := by decide +kernel
theorem d_Outlook_tellingCell_69 : decode og_c_Outlook_tellingCell 69 = .ok (.istore 4, 2) := by decide +kernel
theorem d_Outlook_tellingCell_71 : decode og_c_Outlook_tellingCell 71 = .ok (.iinc 6 1, 3) := by decide +kernel
theorem d_Outlook_tellingCell_74 : decode og_c_Outlook_tellingCell 74 = .ok (.goto (-45), 3) := by decide +kernel
theorem d_Outlook_tellingCell_77 : decode og_c_Outlook_tellingCell 77 = .ok (.iinc 5 1, 3) := by decide +kernel
theorem d_Outlook_tellingCell_80 : decode og_c_Outlook_tellingCell 80 = .ok (.goto (-60), 3) := by decide +kernel
theorem d_Outlook_tellingCell_83 : decode og_c_Outlook_tellingCell 83 = .ok (.iload 4, 2) := by decide +kernel
theorem d_Outlook_tellingCell_85 : decode og_c_Outlook_tellingCell 85 = .ok (.ireturn, 1) := by decide +kernel
def m_Outlook_tellingCell : og_Dn := og_den [11, 16, 0] 7 0 (og_seq (og_set 3 (og_min (og_k 30) (og_sub (og_k 999) (og_get 2 (og_loc 1))))) (og_seq (og_set 4 (og_k 0)) (og_cut (og_seq (og_set 5 (og_k 0)) (og_while (og_cc og_rlt (og_loc 5) (og_loc 3)) (og_seq (og_set 6 (og_k 0)) (og_while (og_cc og_rlt (og_loc 6) (og_get 0 (og_loc 1))) (og_if (og_cc og_rlt (og_call m_Outlook_mostLeft [og_loc 0, og_add (og_mul (og_k 6) (og_loc 5)) (og_loc 6), og_loc 2]) (og_call m_Outlook_mostLeft [og_loc 0, og_loc 4, og_loc 2])) (og_set 4 (og_add (og_mul (og_k 6) (og_loc 5)) (og_loc 6))) (og_skip)) (og_inc 6 1))) (og_inc 5 1))) (og_ret (og_loc 4)))))
set_option maxRecDepth 20000 in
theorem ok_Outlook_tellingCell : og_MOK og_y_Outlook_tellingCell og_c_Outlook_tellingCell 7 0 2 [11, 16, 0] m_Outlook_tellingCell := og_method (b := 0) (lt' := []) (by decide +kernel) (by decide) (by decide) (og_sseq (og_istore_n (i := 3) (lt' := [(0, 11), (1, 16), (2, 0), (3, 0)]) (og_imin (og_bipush (by decide) d_Outlook_tellingCell_0) (og_isub (og_sipush (by decide) d_Outlook_tellingCell_2) (og_f_Yard_month_N (og_aload_n (i := 1) (t := 14) (j := 1) (by rfl) (by rfl) d_Outlook_tellingCell_5) og_w56 d_Outlook_tellingCell_6) d_Outlook_tellingCell_9) (by decide) (by decide) og_w879 og_w747 og_w19 og_w748 d_Outlook_tellingCell_10) (by rfl) (by decide) (by decide) d_Outlook_tellingCell_13) (og_sseq (og_istore (i := 4) (lt' := [(0, 11), (1, 16), (2, 0), (3, 0), (4, 0)]) (og_iconst (by decide) d_Outlook_tellingCell_14) (by decide) (by decide) d_Outlook_tellingCell_15) (og_scut (og_sdrop (lt' := [(0, 11), (1, 16), (2, 0), (3, 0), (4, 0), (5, 0)]) (lt2 := [(0, 11), (1, 16), (2, 0), (3, 0), (4, 0)]) (og_sseq (og_istore (i := 5) (lt' := [(0, 11), (1, 16), (2, 0), (3, 0), (4, 0), (5, 0)]) (og_iconst (by decide) d_Outlook_tellingCell_17) (by decide) (by decide) d_Outlook_tellingCell_18) (og_swhile (T := 26) (F := 83) (cp0 := 77) (og_ccn og_n_lt (og_ige (tgt := 83) (og_iload (i := 5) (j := 5) (by rfl) d_Outlook_tellingCell_20) (og_iload_n (i := 3) (j := 3) (by rfl) (by rfl) d_Outlook_tellingCell_22) d_Outlook_tellingCell_23 (by decide))) (og_sdrop (lt' := [(0, 11), (1, 16), (2, 0), (3, 0), (4, 0), (5, 0), (6, 0)]) (lt2 := [(0, 11), (1, 16), (2, 0), (3, 0), (4, 0), (5, 0)]) (og_sseq (og_istore (i := 6) (lt' := [(0, 11), (1, 16), (2, 0), (3, 0), (4, 0), (5, 0), (6, 0)]) (og_iconst (by decide) d_Outlook_tellingCell_26) (by decide) (by decide) d_Outlook_tellingCell_27) (og_swhile (T := 38) (F := 77) (cp0 := 71) (og_ccn og_n_lt (og_ige (tgt := 77) (og_iload (i := 6) (j := 6) (by rfl) d_Outlook_tellingCell_29) (og_f_Yard_graves_N (og_aload_n (i := 1) (t := 14) (j := 1) (by rfl) (by rfl) d_Outlook_tellingCell_31) og_w46 d_Outlook_tellingCell_32) d_Outlook_tellingCell_35 (by decide))) (og_sif (T := 61) (F := 71) (og_ccn og_n_lt (og_ige (tgt := 71) (og_callVi (og_acons (og_aload_n (i := 0) (t := 9) (j := 0) (by rfl) (by rfl) d_Outlook_tellingCell_38) (og_acons (og_iadd (og_imul (og_bipush (by decide) d_Outlook_tellingCell_39) (og_iload (i := 5) (j := 5) (by rfl) d_Outlook_tellingCell_41) d_Outlook_tellingCell_43) (og_iload (i := 6) (j := 6) (by rfl) d_Outlook_tellingCell_44) d_Outlook_tellingCell_46) (og_acons (og_iload_n (i := 2) (j := 2) (by rfl) (by rfl) d_Outlook_tellingCell_47) (og_anil)))) (by decide) ok_Outlook_mostLeft (v_Outlook_mostLeft (by decide)) og_w1017 d_Outlook_tellingCell_48) (og_callVi (og_acons (og_aload_n (i := 0) (t := 9) (j := 0) (by rfl) (by rfl) d_Outlook_tellingCell_51) (og_acons (og_iload (i := 4) (j := 4) (by rfl) d_Outlook_tellingCell_52) (og_acons (og_iload_n (i := 2) (j := 2) (by rfl) (by rfl) d_Outlook_tellingCell_54) (og_anil)))) (by decide) ok_Outlook_mostLeft (v_Outlook_mostLeft (by decide)) og_w1017 d_Outlook_tellingCell_55) d_Outlook_tellingCell_58 (by decide))) (og_istore (i := 4) (lt' := [(0, 11), (1, 16), (2, 0), (3, 0), (4, 0), (5, 0), (6, 0)]) (og_iadd (og_imul (og_bipush (by decide) d_Outlook_tellingCell_61) (og_iload (i := 5) (j := 5) (by rfl) d_Outlook_tellingCell_63) d_Outlook_tellingCell_65) (og_iload (i := 6) (j := 6) (by rfl) d_Outlook_tellingCell_66) d_Outlook_tellingCell_68) (by decide) (by decide) d_Outlook_tellingCell_69) (og_sskip)) (og_gS (b' := 29) (og_iinc (j := 6) (lt' := [(0, 11), (1, 16), (2, 0), (3, 0), (4, 0), (5, 0), (6, 0)]) (by rfl) (by decide) (by decide) d_Outlook_tellingCell_71) d_Outlook_tellingCell_74 (by decide)))) (by decide)) (og_gS (b' := 20) (og_iinc (j := 5) (lt' := [(0, 11), (1, 16), (2, 0), (3, 0), (4, 0), (5, 0)]) (by rfl) (by decide) (by decide) d_Outlook_tellingCell_77) d_Outlook_tellingCell_80 (by decide)))) (by decide)) (og_sreti (og_iload (i := 4) (j := 4) (by rfl) d_Outlook_tellingCell_83) d_Outlook_tellingCell_85)))) (fun h => by cases h)
abbrev og_c_OG_tells : ByteArray := prog_1_method_22_code
abbrev og_y_OG_tells : MethodName := ⟨"OpenGraves", "tells", "(II)I"⟩
theorem v_OG_tells {own : String} {idx dep : Nat} (h : 8 + 1 ≤ dep) : og_sV own idx og_y_OG_tells og_c_OG_tells 5 0 8 dep 1 2 := ⟨⟨0, og_sl_OG, og_T_OG, 17, rfl, by decide, rfl⟩, og_w996, og_w997, og_w1, og_w998, ⟨by decide +kernel, by decide +kernel, by decide +kernel⟩, h, by decide⟩
theorem d_OG_tells_0 : decode og_c_OG_tells 0 = .ok (.aload_n 0, 1) := by decide +kernel
theorem d_OG_tells_1 : decode og_c_OG_tells 1 = .ok (.getfield 90, 3) := by decide +kernel
theorem d_OG_tells_4 : decode og_c_OG_tells 4 = .ok (.iload_n 1, 1) := by decide +kernel
theorem d_OG_tells_5 : decode og_c_OG_tells 5 = .ok (.invokevirtual 217, 3) := by decide +kernel
theorem d_OG_tells_8 : decode og_c_OG_tells 8 = .ok (.ifCond .eq 35, 3) := by decide +kernel
theorem d_OG_tells_11 : decode og_c_OG_tells 11 = .ok (.iload_n 2, 1) := by decide +kernel
theorem d_OG_tells_12 : decode og_c_OG_tells 12 = .ok (.ifCond .lt 31, 3) := by decide +kernel
theorem d_OG_tells_15 : decode og_c_OG_tells 15 = .ok (.iload_n 2, 1) := by decide +kernel
theorem d_OG_tells_16 : decode og_c_OG_tells 16 = .ok (.iconst 2, 1) := by decide +kernel
theorem d_OG_tells_17 : decode og_c_OG_tells 17 = .ok (.if_icmp .gt 26, 3) := by decide +kernel
theorem d_OG_tells_20 : decode og_c_OG_tells 20 = .ok (.aload_n 0, 1) := by decide +kernel
theorem d_OG_tells_21 : decode og_c_OG_tells 21 = .ok (.getfield 90, 3) := by decide +kernel
theorem d_OG_tells_24 : decode og_c_OG_tells 24 = .ok (.getfield 142, 3) := by decide +kernel
theorem d_OG_tells_27 : decode og_c_OG_tells 27 = .ok (.ifCond .eq 16, 3) := by decide +kernel
theorem d_OG_tells_30 : decode og_c_OG_tells 30 = .ok (.aload_n 0, 1) := by decide +kernel
theorem d_OG_tells_31 : decode og_c_OG_tells 31 = .ok (.getfield 90, 3) := by decide +kernel
theorem d_OG_tells_34 : decode og_c_OG_tells 34 = .ok (.getfield 148, 3) := by decide +kernel
theorem d_OG_tells_37 : decode og_c_OG_tells 37 = .ok (.sipush 999, 3) := by decide +kernel
theorem d_OG_tells_40 : decode og_c_OG_tells 40 = .ok (.if_icmp .lt 5, 3) := by decide +kernel
theorem d_OG_tells_43 : decode og_c_OG_tells 43 = .ok (.iconst (-1), 1) := by decide +kernel
theorem d_OG_tells_44 : decode og_c_OG_tells 44 = .ok (.ireturn, 1) := by decide +kernel
theorem d_OG_tells_45 : decode og_c_OG_tells 45 = .ok (.aload_n 0, 1) := by decide +kernel
theorem d_OG_tells_46 : decode og_c_OG_tells 46 = .ok (.getfield 69, 3) := by decide +kernel
theorem d_OG_tells_49 : decode og_c_OG_tells 49 = .ok (.aload_n 0, 1) := by decide +kernel
theorem d_OG_tells_50 : decode og_c_OG_tells 50 = .ok (.getfield 10, 3) := by decide +kernel
theorem d_OG_tells_53 : decode og_c_OG_tells 53 = .ok (.getfield 37, 3) := by decide +kernel
theorem d_OG_tells_56 : decode og_c_OG_tells 56 = .ok (.aload_n 0, 1) := by decide +kernel
theorem d_OG_tells_57 : decode og_c_OG_tells 57 = .ok (.getfield 90, 3) := by decide +kernel
theorem d_OG_tells_60 : decode og_c_OG_tells 60 = .ok (.iload_n 1, 1) := by decide +kernel
theorem d_OG_tells_61 : decode og_c_OG_tells 61 = .ok (.invokevirtual 282, 3) := by decide +kernel
theorem d_OG_tells_64 : decode og_c_OG_tells 64 = .ok (.istore_n 3, 1) := by decide +kernel
theorem d_OG_tells_65 : decode og_c_OG_tells 65 = .ok (.iload_n 3, 1) := by decide +kernel
theorem d_OG_tells_66 : decode og_c_OG_tells 66 = .ok (.ifCond .ne 5, 3) := by decide +kernel
theorem d_OG_tells_69 : decode og_c_OG_tells 69 = .ok (.iconst (-1), 1) := by decide +kernel
theorem d_OG_tells_70 : decode og_c_OG_tells 70 = .ok (.ireturn, 1) := by decide +kernel
theorem d_OG_tells_71 : decode og_c_OG_tells 71 = .ok (.aload_n 0, 1) := by decide +kernel
theorem d_OG_tells_72 : decode og_c_OG_tells 72 = .ok (.getfield 69, 3) := by decide +kernel
theorem d_OG_tells_75 : decode og_c_OG_tells 75 = .ok (.aload_n 0, 1) := by decide +kernel
theorem d_OG_tells_76 : decode og_c_OG_tells 76 = .ok (.getfield 10, 3) := by decide +kernel
theorem d_OG_tells_79 : decode og_c_OG_tells 79 = .ok (.getfield 37, 3) := by decide +kernel
theorem d_OG_tells_82 : decode og_c_OG_tells 82 = .ok (.aload_n 0, 1) := by decide +kernel
theorem d_OG_tells_83 : decode og_c_OG_tells 83 = .ok (.getfield 90, 3) := by decide +kernel
theorem d_OG_tells_86 : decode og_c_OG_tells 86 = .ok (.iload_n 1, 1) := by decide +kernel
theorem d_OG_tells_87 : decode og_c_OG_tells 87 = .ok (.iload_n 3, 1) := by decide +kernel
theorem d_OG_tells_88 : decode og_c_OG_tells 88 = .ok (.invokevirtual 285, 3) := by decide +kernel
theorem d_OG_tells_91 : decode og_c_OG_tells 91 = .ok (.aload_n 0, 1) := by decide +kernel
theorem d_OG_tells_92 : decode og_c_OG_tells 92 = .ok (.getfield 69, 3) := by decide +kernel
theorem d_OG_tells_95 : decode og_c_OG_tells 95 = .ok (.aload_n 0, 1) := by decide +kernel
theorem d_OG_tells_96 : decode og_c_OG_tells 96 = .ok (.getfield 90, 3) := by decide +kernel
theorem d_OG_tells_99 : decode og_c_OG_tells 99 = .ok (.iload_n 3, 1) := by decide +kernel
theorem d_OG_tells_100 : decode og_c_OG_tells 100 = .ok (.invokestatic 289, 3) := by decide +kernel
theorem d_OG_tells_103 : decode og_c_OG_tells 103 = .ok (.invokevirtual 294, 3) := by decide +kernel
theorem d_OG_tells_106 : decode og_c_OG_tells 106 = .ok (.istore 4, 2) := by decide +kernel
theorem d_OG_tells_108 : decode og_c_OG_tells 108 = .ok (.iload_n 2, 1) := by decide +kernel
theorem d_OG_tells_109 : decode og_c_OG_tells 109 = .ok (.lookupswitch 41 #[(0, 27), (1, 35)], 27) := by decide +kernel
theorem d_OG_tells_136 : decode og_c_OG_tells 136 = .ok (.iload 4, 2) := by decide +kernel
theorem d_OG_tells_138 : decode og_c_OG_tells 138 = .ok (.bipush 6, 2) := by decide +kernel
theorem d_OG_tells_140 : decode og_c_OG_tells 140 = .ok (.idiv, 1) := by decide +kernel
theorem d_OG_tells_141 : decode og_c_OG_tells 141 = .ok (.iconst 1, 1) := by decide +kernel
theorem d_OG_tells_142 : decode og_c_OG_tells 142 = .ok (.iadd, 1) := by decide +kernel
theorem d_OG_tells_143 : decode og_c_OG_tells 143 = .ok (.ireturn, 1) := by decide +kernel
theorem d_OG_tells_144 : decode og_c_OG_tells 144 = .ok (.iload 4, 2) := by decide +kernel
theorem d_OG_tells_146 : decode og_c_OG_tells 146 = .ok (.bipush 6, 2) := by decide +kernel
theorem d_OG_tells_148 : decode og_c_OG_tells 148 = .ok (.irem, 1) := by decide +kernel
theorem d_OG_tells_149 : decode og_c_OG_tells 149 = .ok (.ireturn, 1) := by decide +kernel
theorem d_OG_tells_150 : decode og_c_OG_tells 150 = .ok (.aload_n 0, 1) := by decide +kernel
theorem d_OG_tells_151 : decode og_c_OG_tells 151 = .ok (.getfield 69, 3) := by decide +kernel
theorem d_OG_tells_154 : decode og_c_OG_tells 154 = .ok (.iload 4, 2) := by decide +kernel
theorem d_OG_tells_156 : decode og_c_OG_tells 156 = .ok (.iload_n 3, 1) := by decide +kernel
theorem d_OG_tells_157 : decode og_c_OG_tells 157 = .ok (.invokestatic 289, 3) := by decide +kernel
theorem d_OG_tells_160 : decode og_c_OG_tells 160 = .ok (.invokevirtual 298, 3) := by decide +kernel
theorem d_OG_tells_163 : decode og_c_OG_tells 163 = .ok (.ireturn, 1) := by decide +kernel
def m_OG_tells : og_Dn := og_den [5, 0, 0] 5 0 (og_seq (og_if (og_or (og_or (og_or (og_or (og_not (og_cb (og_call m_Yard_lives [og_fix (fun _ => 100) (og_loc 0), og_loc 1]))) (og_cc og_rlt (og_loc 2) (og_k 0))) (og_cc og_rgt (og_loc 2) (og_k 2))) (og_cc og_req (og_get 0 (og_fix (fun _ => 100) (og_loc 0))) (og_k 0))) (og_cc og_rge (og_get 2 (og_fix (fun _ => 100) (og_loc 0))) (og_k 999))) (og_ret (og_k (-1))) (og_skip)) (og_seq (og_set 3 (og_call m_Outlook_willsOf [og_fix (fun _ => 10) (og_loc 0), og_fix (fun i => i + 2) (og_get 15 (og_loc 0)), og_fix (fun _ => 100) (og_loc 0), og_loc 1])) (og_seq (og_if (og_cc og_req (og_loc 3) (og_k 0)) (og_ret (og_k (-1))) (og_skip)) (og_seq (og_exp (og_call m_Outlook_countFillings [og_fix (fun _ => 10) (og_loc 0), og_fix (fun i => i + 2) (og_get 15 (og_loc 0)), og_fix (fun _ => 100) (og_loc 0), og_loc 1, og_loc 3])) (og_seq (og_set 4 (og_call m_Outlook_tellingCell [og_fix (fun _ => 10) (og_loc 0), og_fix (fun _ => 100) (og_loc 0), og_call m_J_bitCount [og_loc 3]])) (og_sw (og_loc 2) (fun x => og_cs x [0] (og_ret (og_add (og_div (og_loc 4) (og_k 6)) (og_k 1))) (og_cs x [1] (og_ret (og_rem (og_loc 4) (og_k 6))) (og_ret (og_call m_Outlook_mostLeft [og_fix (fun _ => 10) (og_loc 0), og_loc 4, og_call m_J_bitCount [og_loc 3]]))))))))))
set_option maxRecDepth 20000 in
theorem ok_OG_tells : og_MOK og_y_OG_tells og_c_OG_tells 5 0 8 [5, 0, 0] m_OG_tells := og_method (b := 0) (lt' := []) (by decide +kernel) (by decide) (by decide) (og_sseq (og_sif (T := 43) (F := 45) (og_cor (og_cor (og_cor (og_cor (og_cnot (og_cbeq (tgt := 43) (og_callVz (og_acons (og_f_OG_now (og_aload_n (i := 0) (t := 3) (j := 0) (by rfl) (by rfl) d_OG_tells_0) og_w397 d_OG_tells_1) (og_acons (og_iload_n (i := 1) (j := 1) (by rfl) (by rfl) d_OG_tells_4) (og_anil))) (by decide) ok_Yard_lives (v_Yard_lives (by decide)) og_w788 d_OG_tells_5) d_OG_tells_8 (by decide))) (og_zlt (tgt := 43) (og_iload_n (i := 2) (j := 2) (by rfl) (by rfl) d_OG_tells_11) d_OG_tells_12 (by decide))) (og_igt (tgt := 43) (og_iload_n (i := 2) (j := 2) (by rfl) (by rfl) d_OG_tells_15) (og_iconst (by decide) d_OG_tells_16) d_OG_tells_17 (by decide))) (og_zeq (tgt := 43) (og_f_Yard_graves_N (og_f_OG_now (og_aload_n (i := 0) (t := 3) (j := 0) (by rfl) (by rfl) d_OG_tells_20) og_w397 d_OG_tells_21) og_w47 d_OG_tells_24) d_OG_tells_27 (by decide))) (og_ccn og_n_ge (og_ilt (tgt := 45) (og_f_Yard_month_N (og_f_OG_now (og_aload_n (i := 0) (t := 3) (j := 0) (by rfl) (by rfl) d_OG_tells_30) og_w397 d_OG_tells_31) og_w58 d_OG_tells_34) (og_sipush (by decide) d_OG_tells_37) d_OG_tells_40 (by decide)))) (og_sreti (og_iconst (by decide) d_OG_tells_43) d_OG_tells_44) (og_sskip)) (og_sseq (og_istore_n (i := 3) (lt' := [(0, 5), (1, 0), (2, 0), (3, 0)]) (og_callVi (og_acons (og_f_OG_outlook (og_aload_n (i := 0) (t := 3) (j := 0) (by rfl) (by rfl) d_OG_tells_45) og_w394 d_OG_tells_46) (og_acons (og_f_Parish_rules_N (og_f_OG_told (og_aload_n (i := 0) (t := 3) (j := 0) (by rfl) (by rfl) d_OG_tells_49) og_w404 d_OG_tells_50) og_w150 d_OG_tells_53) (og_acons (og_f_OG_now (og_aload_n (i := 0) (t := 3) (j := 0) (by rfl) (by rfl) d_OG_tells_56) og_w397 d_OG_tells_57) (og_acons (og_iload_n (i := 1) (j := 1) (by rfl) (by rfl) d_OG_tells_60) (og_anil))))) (by decide) ok_Outlook_willsOf (v_Outlook_willsOf (by decide)) og_w981 d_OG_tells_61) (by rfl) (by decide) (by decide) d_OG_tells_64) (og_sseq (og_sif (T := 69) (F := 71) (og_ccn og_n_eq (og_zne (tgt := 71) (og_iload_n (i := 3) (j := 3) (by rfl) (by rfl) d_OG_tells_65) d_OG_tells_66 (by decide))) (og_sreti (og_iconst (by decide) d_OG_tells_69) d_OG_tells_70) (og_sskip)) (og_sseq (og_callVv (og_acons (og_f_OG_outlook (og_aload_n (i := 0) (t := 3) (j := 0) (by rfl) (by rfl) d_OG_tells_71) og_w394 d_OG_tells_72) (og_acons (og_f_Parish_rules_N (og_f_OG_told (og_aload_n (i := 0) (t := 3) (j := 0) (by rfl) (by rfl) d_OG_tells_75) og_w404 d_OG_tells_76) og_w150 d_OG_tells_79) (og_acons (og_f_OG_now (og_aload_n (i := 0) (t := 3) (j := 0) (by rfl) (by rfl) d_OG_tells_82) og_w397 d_OG_tells_83) (og_acons (og_iload_n (i := 1) (j := 1) (by rfl) (by rfl) d_OG_tells_86) (og_acons (og_iload_n (i := 3) (j := 3) (by rfl) (by rfl) d_OG_tells_87) (og_anil)))))) ok_Outlook_countFillings (v_Outlook_countFillings (by decide)) og_w999 d_OG_tells_88) (og_sseq (og_istore (i := 4) (lt' := [(0, 5), (1, 0), (2, 0), (3, 0), (4, 0)]) (og_callVi (og_acons (og_f_OG_outlook (og_aload_n (i := 0) (t := 3) (j := 0) (by rfl) (by rfl) d_OG_tells_91) og_w394 d_OG_tells_92) (og_acons (og_f_OG_now (og_aload_n (i := 0) (t := 3) (j := 0) (by rfl) (by rfl) d_OG_tells_95) og_w397 d_OG_tells_96) (og_acons (og_callSi (og_acons (og_iload_n (i := 3) (j := 3) (by rfl) (by rfl) d_OG_tells_99) (og_anil)) (by decide) ok_J_bitCount (v_J_bitCount (by decide)) og_w1007 d_OG_tells_100) (og_anil)))) (by decide) ok_Outlook_tellingCell (v_Outlook_tellingCell (by decide)) og_w1013 d_OG_tells_103) (by decide) (by decide) d_OG_tells_106) (og_slook (b1 := 0) (d := 150) (cs := [(0, 136), (1, 144)]) (og_iload_n (i := 2) (j := 2) (by rfl) (by rfl) d_OG_tells_108) d_OG_tells_109 (by decide) (by decide) (og_lkeq (by decide)) (fun x => og_scs (fun hx => og_sat (by simp at hx; subst hx; rfl) (og_sreti (og_iadd (og_idiv (og_iload (i := 4) (j := 4) (by rfl) d_OG_tells_136) (og_bipush (by decide) d_OG_tells_138) d_OG_tells_140) (og_iconst (by decide) d_OG_tells_141) d_OG_tells_142) d_OG_tells_143)) (fun hx => og_scs (fun hx => og_sat (by simp at hx; subst hx; rfl) (og_sreti (og_irem (og_iload (i := 4) (j := 4) (by rfl) d_OG_tells_144) (og_bipush (by decide) d_OG_tells_146) d_OG_tells_148) d_OG_tells_149)) (fun hx => og_sat (og_lkn (by simp_all)) (og_sreti (og_callVi (og_acons (og_f_OG_outlook (og_aload_n (i := 0) (t := 3) (j := 0) (by rfl) (by rfl) d_OG_tells_150) og_w394 d_OG_tells_151) (og_acons (og_iload (i := 4) (j := 4) (by rfl) d_OG_tells_154) (og_acons (og_callSi (og_acons (og_iload_n (i := 3) (j := 3) (by rfl) (by rfl) d_OG_tells_156) (og_anil)) (by decide) ok_J_bitCount (v_J_bitCount (by decide)) og_w1007 d_OG_tells_157) (og_anil)))) (by decide) ok_Outlook_mostLeft (v_Outlook_mostLeft (by decide)) og_w1021 d_OG_tells_160) d_OG_tells_163)))))))))) (fun h => by cases h)
abbrev og_c_Past_keep : ByteArray := prog_6_method_3_code
abbrev og_y_Past_keep : MethodName := ⟨"OpenGraves$Past", "keep", "(LOpenGraves$Yard;)V"⟩
theorem v_Past_keep {own : String} {idx dep : Nat} (h : 2 + 1 ≤ dep) : og_sV own idx og_y_Past_keep og_c_Past_keep 2 2 2 dep 9 1 := ⟨⟨8, og_sl_Past, og_T_Past, 3, rfl, by decide, rfl⟩, og_w1028, og_w1029, og_w16, og_w1030, ⟨by decide +kernel, by decide +kernel, by decide +kernel⟩, h, by decide⟩
theorem d_Past_keep_0 : decode og_c_Past_keep 0 = .ok (.aload_n 0, 1) := by decide +kernel
theorem d_Past_keep_1 : decode og_c_Past_keep 1 = .ok (.getfield 11, 3) := by decide +kernel
theorem d_Past_keep_4 : decode og_c_Past_keep 4 = .ok (.aload_n 0, 1) := by decide +kernel
theorem d_Past_keep_5 : decode og_c_Past_keep 5 = .ok (.getfield 22, 3) := by decide +kernel
theorem d_Past_keep_8 : decode og_c_Past_keep 8 = .ok (.aload_n 0, 1) := by decide +kernel
theorem d_Past_keep_9 : decode og_c_Past_keep 9 = .ok (.getfield 18, 3) := by decide +kernel
theorem d_Past_keep_12 : decode og_c_Past_keep 12 = .ok (.iadd, 1) := by decide +kernel
theorem d_Past_keep_13 : decode og_c_Past_keep 13 = .ok (.bipush 20, 2) := by decide +kernel
theorem d_Past_keep_15 : decode og_c_Past_keep 15 = .ok (.irem, 1) := by decide +kernel
theorem d_Past_keep_16 : decode og_c_Past_keep 16 = .ok (.aaload, 1) := by decide +kernel
theorem d_Past_keep_17 : decode og_c_Past_keep 17 = .ok (.aload_n 1, 1) := by decide +kernel
theorem d_Past_keep_18 : decode og_c_Past_keep 18 = .ok (.invokevirtual 25, 3) := by decide +kernel
theorem d_Past_keep_21 : decode og_c_Past_keep 21 = .ok (.aload_n 0, 1) := by decide +kernel
theorem d_Past_keep_22 : decode og_c_Past_keep 22 = .ok (.getfield 18, 3) := by decide +kernel
theorem d_Past_keep_25 : decode og_c_Past_keep 25 = .ok (.bipush 20, 2) := by decide +kernel
theorem d_Past_keep_27 : decode og_c_Past_keep 27 = .ok (.if_icmp .ge 16, 3) := by decide +kernel
theorem d_Past_keep_30 : decode og_c_Past_keep 30 = .ok (.aload_n 0, 1) := by decide +kernel
theorem d_Past_keep_31 : decode og_c_Past_keep 31 = .ok (.dup, 1) := by decide +kernel
theorem d_Past_keep_32 : decode og_c_Past_keep 32 = .ok (.getfield 18, 3) := by decide +kernel
theorem d_Past_keep_35 : decode og_c_Past_keep 35 = .ok (.iconst 1, 1) := by decide +kernel
theorem d_Past_keep_36 : decode og_c_Past_keep 36 = .ok (.iadd, 1) := by decide +kernel
theorem d_Past_keep_37 : decode og_c_Past_keep 37 = .ok (.putfield 18, 3) := by decide +kernel
theorem d_Past_keep_40 : decode og_c_Past_keep 40 = .ok (.goto 16, 3) := by decide +kernel
theorem d_Past_keep_43 : decode og_c_Past_keep 43 = .ok (.aload_n 0, 1) := by decide +kernel
theorem d_Past_keep_44 : decode og_c_Past_keep 44 = .ok (.aload_n 0, 1) := by decide +kernel
theorem d_Past_keep_45 : decode og_c_Past_keep 45 = .ok (.getfield 22, 3) := by decide +kernel
theorem d_Past_keep_48 : decode og_c_Past_keep 48 = .ok (.iconst 1, 1) := by decide +kernel
theorem d_Past_keep_49 : decode og_c_Past_keep 49 = .ok (.iadd, 1) := by decide +kernel
theorem d_Past_keep_50 : decode og_c_Past_keep 50 = .ok (.bipush 20, 2) := by decide +kernel
theorem d_Past_keep_52 : decode og_c_Past_keep 52 = .ok (.irem, 1) := by decide +kernel
theorem d_Past_keep_53 : decode og_c_Past_keep 53 = .ok (.putfield 22, 3) := by decide +kernel
theorem d_Past_keep_56 : decode og_c_Past_keep 56 = .ok (.return_, 1) := by decide +kernel
def m_Past_keep : og_Dn := og_den [13, 16] 2 2 (og_seq (og_exp (og_call m_Yard_become [og_yld (og_fix (fun _ => 21) (og_loc 0)) (og_rem (og_add (og_get 2 (og_loc 0)) (og_get 1 (og_loc 0))) (og_k 20)), og_loc 1])) (og_if (og_cc og_rlt (og_get 1 (og_loc 0)) (og_k 20)) (og_pop32 og_padd 1 (og_loc 0) (og_k 1)) (og_putf 2 (og_loc 0) (og_rem (og_add (og_get 2 (og_loc 0)) (og_k 1)) (og_k 20)))))
set_option maxRecDepth 20000 in
theorem ok_Past_keep : og_MOK og_y_Past_keep og_c_Past_keep 2 2 2 [13, 16] m_Past_keep := og_method (b := 56) (lt' := [(0, 13), (1, 16)]) (by decide +kernel) (by decide) (by decide) (og_sseq (og_callVv (og_acons (og_yald (og_f_Past_yards (og_aload_n (i := 0) (t := 11) (j := 0) (by rfl) (by rfl) d_Past_keep_0) og_w376 d_Past_keep_1) (og_irem (og_iadd (og_f_Past_oldest (og_aload_n (i := 0) (t := 11) (j := 0) (by rfl) (by rfl) d_Past_keep_4) og_w379 d_Past_keep_5) (og_f_Past_count (og_aload_n (i := 0) (t := 11) (j := 0) (by rfl) (by rfl) d_Past_keep_8) og_w377 d_Past_keep_9) d_Past_keep_12) (og_bipush (by decide) d_Past_keep_13) d_Past_keep_15) d_Past_keep_16) (og_acons (og_aload_n (i := 1) (t := 14) (j := 1) (by rfl) (by rfl) d_Past_keep_17) (og_anil))) ok_Yard_become (v_Yard_become (by decide)) og_w1031 d_Past_keep_18) (og_sif (T := 30) (F := 43) (og_ccn og_n_lt (og_ige (tgt := 43) (og_f_Past_count (og_aload_n (i := 0) (t := 11) (j := 0) (by rfl) (by rfl) d_Past_keep_21) og_w377 d_Past_keep_22) (og_bipush (by decide) d_Past_keep_25) d_Past_keep_27 (by decide))) (og_gS (b' := 56) (og_qadd_Past_count (og_aload_n (i := 0) (t := 11) (j := 0) (by rfl) (by rfl) d_Past_keep_30) d_Past_keep_31 d_Past_keep_32 (og_iconst (by decide) d_Past_keep_35) d_Past_keep_36 og_w377 d_Past_keep_37) d_Past_keep_40 (by decide)) (og_p_Past_oldest (og_aload_n (i := 0) (t := 11) (j := 0) (by rfl) (by rfl) d_Past_keep_43) (og_irem (og_iadd (og_f_Past_oldest (og_aload_n (i := 0) (t := 11) (j := 0) (by rfl) (by rfl) d_Past_keep_44) og_w379 d_Past_keep_45) (og_iconst (by decide) d_Past_keep_48) d_Past_keep_49) (og_bipush (by decide) d_Past_keep_50) d_Past_keep_52) og_w379 d_Past_keep_53))) (fun _ => d_Past_keep_56)
abbrev og_c_OG_dig : ByteArray := prog_1_method_23_code
abbrev og_y_OG_dig : MethodName := ⟨"OpenGraves", "dig", "(I)I"⟩
theorem v_OG_dig {own : String} {idx dep : Nat} (h : 3 + 1 ≤ dep) : og_sV own idx og_y_OG_dig og_c_OG_dig 2 0 3 dep 1 1 := ⟨⟨0, og_sl_OG, og_T_OG, 17, rfl, by decide, rfl⟩, og_w1023, og_w1024, og_w1, og_w1025, ⟨by decide +kernel, by decide +kernel, by decide +kernel⟩, h, by decide⟩
theorem d_OG_dig_0 : decode og_c_OG_dig 0 = .ok (.aload_n 0, 1) := by decide +kernel
theorem d_OG_dig_1 : decode og_c_OG_dig 1 = .ok (.getfield 90, 3) := by decide +kernel
theorem d_OG_dig_4 : decode og_c_OG_dig 4 = .ok (.iload_n 1, 1) := by decide +kernel
theorem d_OG_dig_5 : decode og_c_OG_dig 5 = .ok (.invokevirtual 167, 3) := by decide +kernel
theorem d_OG_dig_8 : decode og_c_OG_dig 8 = .ok (.ifCond .eq 14, 3) := by decide +kernel
theorem d_OG_dig_11 : decode og_c_OG_dig 11 = .ok (.aload_n 0, 1) := by decide +kernel
theorem d_OG_dig_12 : decode og_c_OG_dig 12 = .ok (.getfield 90, 3) := by decide +kernel
theorem d_OG_dig_15 : decode og_c_OG_dig 15 = .ok (.iload_n 1, 1) := by decide +kernel
theorem d_OG_dig_16 : decode og_c_OG_dig 16 = .ok (.invokevirtual 301, 3) := by decide +kernel
theorem d_OG_dig_19 : decode og_c_OG_dig 19 = .ok (.ifCond .ne 9, 3) := by decide +kernel
theorem d_OG_dig_22 : decode og_c_OG_dig 22 = .ok (.aload_n 0, 1) := by decide +kernel
theorem d_OG_dig_23 : decode og_c_OG_dig 23 = .ok (.iconst 2, 1) := by decide +kernel
theorem d_OG_dig_24 : decode og_c_OG_dig 24 = .ok (.invokevirtual 111, 3) := by decide +kernel
theorem d_OG_dig_27 : decode og_c_OG_dig 27 = .ok (.ireturn, 1) := by decide +kernel
theorem d_OG_dig_28 : decode og_c_OG_dig 28 = .ok (.aload_n 0, 1) := by decide +kernel
theorem d_OG_dig_29 : decode og_c_OG_dig 29 = .ok (.getfield 83, 3) := by decide +kernel
theorem d_OG_dig_32 : decode og_c_OG_dig 32 = .ok (.aload_n 0, 1) := by decide +kernel
theorem d_OG_dig_33 : decode og_c_OG_dig 33 = .ok (.getfield 90, 3) := by decide +kernel
theorem d_OG_dig_36 : decode og_c_OG_dig 36 = .ok (.invokevirtual 304, 3) := by decide +kernel
theorem d_OG_dig_39 : decode og_c_OG_dig 39 = .ok (.aload_n 0, 1) := by decide +kernel
theorem d_OG_dig_40 : decode og_c_OG_dig 40 = .ok (.getfield 90, 3) := by decide +kernel
theorem d_OG_dig_43 : decode og_c_OG_dig 43 = .ok (.getfield 181, 3) := by decide +kernel
theorem d_OG_dig_46 : decode og_c_OG_dig 46 = .ok (.iload_n 1, 1) := by decide +kernel
theorem d_OG_dig_47 : decode og_c_OG_dig 47 = .ok (.dup2, 1) := by decide +kernel
theorem d_OG_dig_48 : decode og_c_OG_dig 48 = .ok (.iaload, 1) := by decide +kernel
theorem d_OG_dig_49 : decode og_c_OG_dig 49 = .ok (.iconst 1, 1) := by decide +kernel
theorem d_OG_dig_50 : decode og_c_OG_dig 50 = .ok (.iadd, 1) := by decide +kernel
theorem d_OG_dig_51 : decode og_c_OG_dig 51 = .ok (.iastore, 1) := by decide +kernel
theorem d_OG_dig_52 : decode og_c_OG_dig 52 = .ok (.aload_n 0, 1) := by decide +kernel
theorem d_OG_dig_53 : decode og_c_OG_dig 53 = .ok (.getfield 90, 3) := by decide +kernel
theorem d_OG_dig_56 : decode og_c_OG_dig 56 = .ok (.getfield 181, 3) := by decide +kernel
theorem d_OG_dig_59 : decode og_c_OG_dig 59 = .ok (.iload_n 1, 1) := by decide +kernel
theorem d_OG_dig_60 : decode og_c_OG_dig 60 = .ok (.iaload, 1) := by decide +kernel
theorem d_OG_dig_61 : decode og_c_OG_dig 61 = .ok (.ireturn, 1) := by decide +kernel
def m_OG_dig : og_Dn := og_den [5, 0] 2 0 (og_seq (og_if (og_or (og_not (og_cb (og_call m_Yard_isGrave [og_fix (fun _ => 100) (og_loc 0), og_loc 1]))) (og_not (og_cb (og_call m_Yard_canBeDug [og_fix (fun _ => 100) (og_loc 0), og_loc 1])))) (og_ret (og_call m_OG_refuse [og_loc 0, og_k 2])) (og_skip)) (og_seq (og_exp (og_call m_Past_keep [og_fix (fun _ => 20) (og_loc 0), og_fix (fun _ => 100) (og_loc 0)])) (og_seq (og_aop og_padd 6 (og_fix (fun i => i + 2) (og_fix (fun _ => 100) (og_loc 0))) (og_loc 1) (og_k 1)) (og_ret (og_ald 6 (og_fix (fun i => i + 2) (og_fix (fun _ => 100) (og_loc 0))) (og_loc 1))))))
set_option maxRecDepth 20000 in
theorem ok_OG_dig : og_MOK og_y_OG_dig og_c_OG_dig 2 0 3 [5, 0] m_OG_dig := og_method (b := 0) (lt' := []) (by decide +kernel) (by decide) (by decide) (og_sseq (og_sif (T := 22) (F := 28) (og_cor (og_cnot (og_cbeq (tgt := 22) (og_callVz (og_acons (og_f_OG_now (og_aload_n (i := 0) (t := 3) (j := 0) (by rfl) (by rfl) d_OG_dig_0) og_w397 d_OG_dig_1) (og_acons (og_iload_n (i := 1) (j := 1) (by rfl) (by rfl) d_OG_dig_4) (og_anil))) (by decide) ok_Yard_isGrave (v_Yard_isGrave (by decide)) og_w712 d_OG_dig_5) d_OG_dig_8 (by decide))) (og_cnot (og_cbne (tgt := 28) (og_callVz (og_acons (og_f_OG_now (og_aload_n (i := 0) (t := 3) (j := 0) (by rfl) (by rfl) d_OG_dig_11) og_w397 d_OG_dig_12) (og_acons (og_iload_n (i := 1) (j := 1) (by rfl) (by rfl) d_OG_dig_15) (og_anil))) (by decide) ok_Yard_canBeDug (v_Yard_canBeDug (by decide)) og_w1026 d_OG_dig_16) d_OG_dig_19 (by decide)))) (og_sreti (og_callVi (og_acons (og_aload_n (i := 0) (t := 3) (j := 0) (by rfl) (by rfl) d_OG_dig_22) (og_acons (og_iconst (by decide) d_OG_dig_23) (og_anil))) (by decide) ok_OG_refuse (v_OG_refuse (by decide)) og_w445 d_OG_dig_24) d_OG_dig_27) (og_sskip)) (og_sseq (og_callVv (og_acons (og_f_OG_past (og_aload_n (i := 0) (t := 3) (j := 0) (by rfl) (by rfl) d_OG_dig_28) og_w396 d_OG_dig_29) (og_acons (og_f_OG_now (og_aload_n (i := 0) (t := 3) (j := 0) (by rfl) (by rfl) d_OG_dig_32) og_w397 d_OG_dig_33) (og_anil))) ok_Past_keep (v_Past_keep (by decide)) og_w1027 d_OG_dig_36) (og_sseq (og_aadd (N := 6) (og_f_Yard_deep_N (og_f_OG_now (og_aload_n (i := 0) (t := 3) (j := 0) (by rfl) (by rfl) d_OG_dig_39) og_w397 d_OG_dig_40) og_w68 d_OG_dig_43) (by rfl) (og_iload_n (i := 1) (j := 1) (by rfl) (by rfl) d_OG_dig_46) d_OG_dig_47 d_OG_dig_48 (og_iconst (by decide) d_OG_dig_49) d_OG_dig_50 d_OG_dig_51) (og_sreti (og_iald (N := 6) (og_f_Yard_deep_N (og_f_OG_now (og_aload_n (i := 0) (t := 3) (j := 0) (by rfl) (by rfl) d_OG_dig_52) og_w397 d_OG_dig_53) og_w68 d_OG_dig_56) (by rfl) (og_iload_n (i := 1) (j := 1) (by rfl) (by rfl) d_OG_dig_59) d_OG_dig_60) d_OG_dig_61)))) (fun h => by cases h)
abbrev og_c_OG_fill : ByteArray := prog_1_method_24_code
abbrev og_y_OG_fill : MethodName := ⟨"OpenGraves", "fill", "(II)Z"⟩
theorem v_OG_fill {own : String} {idx dep : Nat} (h : 3 + 1 ≤ dep) : og_sV own idx og_y_OG_fill og_c_OG_fill 3 3 3 dep 1 2 := ⟨⟨0, og_sl_OG, og_T_OG, 17, rfl, by decide, rfl⟩, og_w1033, og_w1034, og_w1, og_w1035, ⟨by decide +kernel, by decide +kernel, by decide +kernel⟩, h, by decide⟩
theorem d_OG_fill_0 : decode og_c_OG_fill 0 = .ok (.aload_n 0, 1) := by decide +kernel
theorem d_OG_fill_1 : decode og_c_OG_fill 1 = .ok (.getfield 90, 3) := by decide +kernel
theorem d_OG_fill_4 : decode og_c_OG_fill 4 = .ok (.iload_n 1, 1) := by decide +kernel
theorem d_OG_fill_5 : decode og_c_OG_fill 5 = .ok (.invokevirtual 167, 3) := by decide +kernel
theorem d_OG_fill_8 : decode og_c_OG_fill 8 = .ok (.ifCond .eq 37, 3) := by decide +kernel
theorem d_OG_fill_11 : decode og_c_OG_fill 11 = .ok (.aload_n 0, 1) := by decide +kernel
theorem d_OG_fill_12 : decode og_c_OG_fill 12 = .ok (.getfield 90, 3) := by decide +kernel
theorem d_OG_fill_15 : decode og_c_OG_fill 15 = .ok (.iload_n 2, 1) := by decide +kernel
theorem d_OG_fill_16 : decode og_c_OG_fill 16 = .ok (.invokevirtual 217, 3) := by decide +kernel
theorem d_OG_fill_19 : decode og_c_OG_fill 19 = .ok (.ifCond .eq 26, 3) := by decide +kernel
theorem d_OG_fill_22 : decode og_c_OG_fill 22 = .ok (.aload_n 0, 1) := by decide +kernel
theorem d_OG_fill_23 : decode og_c_OG_fill 23 = .ok (.getfield 90, 3) := by decide +kernel
theorem d_OG_fill_26 : decode og_c_OG_fill 26 = .ok (.iload_n 1, 1) := by decide +kernel
theorem d_OG_fill_27 : decode og_c_OG_fill 27 = .ok (.invokevirtual 307, 3) := by decide +kernel
theorem d_OG_fill_30 : decode og_c_OG_fill 30 = .ok (.ifCond .ne 15, 3) := by decide +kernel
theorem d_OG_fill_33 : decode og_c_OG_fill 33 = .ok (.aload_n 0, 1) := by decide +kernel
theorem d_OG_fill_34 : decode og_c_OG_fill 34 = .ok (.getfield 90, 3) := by decide +kernel
theorem d_OG_fill_37 : decode og_c_OG_fill 37 = .ok (.iload_n 2, 1) := by decide +kernel
theorem d_OG_fill_38 : decode og_c_OG_fill 38 = .ok (.iload_n 1, 1) := by decide +kernel
theorem d_OG_fill_39 : decode og_c_OG_fill 39 = .ok (.invokevirtual 310, 3) := by decide +kernel
theorem d_OG_fill_42 : decode og_c_OG_fill 42 = .ok (.ifCond .ne 11, 3) := by decide +kernel
theorem d_OG_fill_45 : decode og_c_OG_fill 45 = .ok (.aload_n 0, 1) := by decide +kernel
theorem d_OG_fill_46 : decode og_c_OG_fill 46 = .ok (.iconst 2, 1) := by decide +kernel
theorem d_OG_fill_47 : decode og_c_OG_fill 47 = .ok (.invokevirtual 111, 3) := by decide +kernel
theorem d_OG_fill_50 : decode og_c_OG_fill 50 = .ok (.pop, 1) := by decide +kernel
theorem d_OG_fill_51 : decode og_c_OG_fill 51 = .ok (.iconst 0, 1) := by decide +kernel
theorem d_OG_fill_52 : decode og_c_OG_fill 52 = .ok (.ireturn, 1) := by decide +kernel
theorem d_OG_fill_53 : decode og_c_OG_fill 53 = .ok (.aload_n 0, 1) := by decide +kernel
theorem d_OG_fill_54 : decode og_c_OG_fill 54 = .ok (.getfield 83, 3) := by decide +kernel
theorem d_OG_fill_57 : decode og_c_OG_fill 57 = .ok (.aload_n 0, 1) := by decide +kernel
theorem d_OG_fill_58 : decode og_c_OG_fill 58 = .ok (.getfield 90, 3) := by decide +kernel
theorem d_OG_fill_61 : decode og_c_OG_fill 61 = .ok (.invokevirtual 304, 3) := by decide +kernel
theorem d_OG_fill_64 : decode og_c_OG_fill 64 = .ok (.aload_n 0, 1) := by decide +kernel
theorem d_OG_fill_65 : decode og_c_OG_fill 65 = .ok (.getfield 90, 3) := by decide +kernel
theorem d_OG_fill_68 : decode og_c_OG_fill 68 = .ok (.iload_n 2, 1) := by decide +kernel
theorem d_OG_fill_69 : decode og_c_OG_fill 69 = .ok (.iload_n 1, 1) := by decide +kernel
theorem d_OG_fill_70 : decode og_c_OG_fill 70 = .ok (.iconst 3, 1) := by decide +kernel
theorem d_OG_fill_71 : decode og_c_OG_fill 71 = .ok (.invokevirtual 314, 3) := by decide +kernel
theorem d_OG_fill_74 : decode og_c_OG_fill 74 = .ok (.iconst 1, 1) := by decide +kernel
theorem d_OG_fill_75 : decode og_c_OG_fill 75 = .ok (.ireturn, 1) := by decide +kernel
def m_OG_fill : og_Dn := og_den [5, 0, 0] 3 3 (og_seq (og_if (og_or (og_or (og_or (og_not (og_cb (og_call m_Yard_isGrave [og_fix (fun _ => 100) (og_loc 0), og_loc 1]))) (og_not (og_cb (og_call m_Yard_lives [og_fix (fun _ => 100) (og_loc 0), og_loc 2])))) (og_cb (og_call m_Yard_isFilled [og_fix (fun _ => 100) (og_loc 0), og_loc 1]))) (og_not (og_cb (og_call m_Yard_fits [og_fix (fun _ => 100) (og_loc 0), og_loc 2, og_loc 1])))) (og_seq (og_exp (og_call m_OG_refuse [og_loc 0, og_k 2])) (og_retz (og_k 0))) (og_skip)) (og_seq (og_exp (og_call m_Past_keep [og_fix (fun _ => 20) (og_loc 0), og_fix (fun _ => 100) (og_loc 0)])) (og_seq (og_exp (og_call m_Yard_bury [og_fix (fun _ => 100) (og_loc 0), og_loc 2, og_loc 1, og_k 3])) (og_retz (og_k 1)))))
set_option maxRecDepth 20000 in
theorem ok_OG_fill : og_MOK og_y_OG_fill og_c_OG_fill 3 3 3 [5, 0, 0] m_OG_fill := og_method (b := 0) (lt' := []) (by decide +kernel) (by decide) (by decide) (og_sseq (og_sif (T := 45) (F := 53) (og_cor (og_cor (og_cor (og_cnot (og_cbeq (tgt := 45) (og_callVz (og_acons (og_f_OG_now (og_aload_n (i := 0) (t := 3) (j := 0) (by rfl) (by rfl) d_OG_fill_0) og_w397 d_OG_fill_1) (og_acons (og_iload_n (i := 1) (j := 1) (by rfl) (by rfl) d_OG_fill_4) (og_anil))) (by decide) ok_Yard_isGrave (v_Yard_isGrave (by decide)) og_w712 d_OG_fill_5) d_OG_fill_8 (by decide))) (og_cnot (og_cbeq (tgt := 45) (og_callVz (og_acons (og_f_OG_now (og_aload_n (i := 0) (t := 3) (j := 0) (by rfl) (by rfl) d_OG_fill_11) og_w397 d_OG_fill_12) (og_acons (og_iload_n (i := 2) (j := 2) (by rfl) (by rfl) d_OG_fill_15) (og_anil))) (by decide) ok_Yard_lives (v_Yard_lives (by decide)) og_w788 d_OG_fill_16) d_OG_fill_19 (by decide)))) (og_cbne (tgt := 45) (og_callVz (og_acons (og_f_OG_now (og_aload_n (i := 0) (t := 3) (j := 0) (by rfl) (by rfl) d_OG_fill_22) og_w397 d_OG_fill_23) (og_acons (og_iload_n (i := 1) (j := 1) (by rfl) (by rfl) d_OG_fill_26) (og_anil))) (by decide) ok_Yard_isFilled (v_Yard_isFilled (by decide)) og_w1036 d_OG_fill_27) d_OG_fill_30 (by decide))) (og_cnot (og_cbne (tgt := 53) (og_callVz (og_acons (og_f_OG_now (og_aload_n (i := 0) (t := 3) (j := 0) (by rfl) (by rfl) d_OG_fill_33) og_w397 d_OG_fill_34) (og_acons (og_iload_n (i := 2) (j := 2) (by rfl) (by rfl) d_OG_fill_37) (og_acons (og_iload_n (i := 1) (j := 1) (by rfl) (by rfl) d_OG_fill_38) (og_anil)))) (by decide) ok_Yard_fits (v_Yard_fits (by decide)) og_w1037 d_OG_fill_39) d_OG_fill_42 (by decide)))) (og_sseq (og_spop (og_callVi (og_acons (og_aload_n (i := 0) (t := 3) (j := 0) (by rfl) (by rfl) d_OG_fill_45) (og_acons (og_iconst (by decide) d_OG_fill_46) (og_anil))) (by decide) ok_OG_refuse (v_OG_refuse (by decide)) og_w445 d_OG_fill_47) d_OG_fill_50) (og_sretz (og_iconst (by decide) d_OG_fill_51) d_OG_fill_52)) (og_sskip)) (og_sseq (og_callVv (og_acons (og_f_OG_past (og_aload_n (i := 0) (t := 3) (j := 0) (by rfl) (by rfl) d_OG_fill_53) og_w396 d_OG_fill_54) (og_acons (og_f_OG_now (og_aload_n (i := 0) (t := 3) (j := 0) (by rfl) (by rfl) d_OG_fill_57) og_w397 d_OG_fill_58) (og_anil))) ok_Past_keep (v_Past_keep (by decide)) og_w1027 d_OG_fill_61) (og_sseq (og_callVv (og_acons (og_f_OG_now (og_aload_n (i := 0) (t := 3) (j := 0) (by rfl) (by rfl) d_OG_fill_64) og_w397 d_OG_fill_65) (og_acons (og_iload_n (i := 2) (j := 2) (by rfl) (by rfl) d_OG_fill_68) (og_acons (og_iload_n (i := 1) (j := 1) (by rfl) (by rfl) d_OG_fill_69) (og_acons (og_iconst (by decide) d_OG_fill_70) (og_anil))))) ok_Yard_bury (v_Yard_bury (by decide)) og_w1038 d_OG_fill_71) (og_sretz (og_iconst (by decide) d_OG_fill_74) d_OG_fill_75)))) (fun h => by cases h)
abbrev og_c_OG_talk : ByteArray := prog_1_method_25_code
abbrev og_y_OG_talk : MethodName := ⟨"OpenGraves", "talk", "(II)Z"⟩
theorem v_OG_talk {own : String} {idx dep : Nat} (h : 3 + 1 ≤ dep) : og_sV own idx og_y_OG_talk og_c_OG_talk 3 3 3 dep 1 2 := ⟨⟨0, og_sl_OG, og_T_OG, 17, rfl, by decide, rfl⟩, og_w1040, og_w1041, og_w1, og_w1042, ⟨by decide +kernel, by decide +kernel, by decide +kernel⟩, h, by decide⟩
theorem d_OG_talk_0 : decode og_c_OG_talk 0 = .ok (.aload_n 0, 1) := by decide +kernel
theorem d_OG_talk_1 : decode og_c_OG_talk 1 = .ok (.getfield 90, 3) := by decide +kernel
theorem d_OG_talk_4 : decode og_c_OG_talk 4 = .ok (.iload_n 1, 1) := by decide +kernel
theorem d_OG_talk_5 : decode og_c_OG_talk 5 = .ok (.invokevirtual 217, 3) := by decide +kernel
theorem d_OG_talk_8 : decode og_c_OG_talk 8 = .ok (.ifCond .eq 26, 3) := by decide +kernel
theorem d_OG_talk_11 : decode og_c_OG_talk 11 = .ok (.iload_n 2, 1) := by decide +kernel
theorem d_OG_talk_12 : decode og_c_OG_talk 12 = .ok (.ifCond .lt 22, 3) := by decide +kernel
theorem d_OG_talk_15 : decode og_c_OG_talk 15 = .ok (.iload_n 2, 1) := by decide +kernel
theorem d_OG_talk_16 : decode og_c_OG_talk 16 = .ok (.bipush 9, 2) := by decide +kernel
theorem d_OG_talk_18 : decode og_c_OG_talk 18 = .ok (.if_icmp .gt 16, 3) := by decide +kernel
theorem d_OG_talk_21 : decode og_c_OG_talk 21 = .ok (.aload_n 0, 1) := by decide +kernel
theorem d_OG_talk_22 : decode og_c_OG_talk 22 = .ok (.getfield 90, 3) := by decide +kernel
theorem d_OG_talk_25 : decode og_c_OG_talk 25 = .ok (.getfield 199, 3) := by decide +kernel
theorem d_OG_talk_28 : decode og_c_OG_talk 28 = .ok (.iload_n 1, 1) := by decide +kernel
theorem d_OG_talk_29 : decode og_c_OG_talk 29 = .ok (.iaload, 1) := by decide +kernel
theorem d_OG_talk_30 : decode og_c_OG_talk 30 = .ok (.iload_n 2, 1) := by decide +kernel
theorem d_OG_talk_31 : decode og_c_OG_talk 31 = .ok (.if_icmp .ne 11, 3) := by decide +kernel
theorem d_OG_talk_34 : decode og_c_OG_talk 34 = .ok (.aload_n 0, 1) := by decide +kernel
theorem d_OG_talk_35 : decode og_c_OG_talk 35 = .ok (.iconst 2, 1) := by decide +kernel
theorem d_OG_talk_36 : decode og_c_OG_talk 36 = .ok (.invokevirtual 111, 3) := by decide +kernel
theorem d_OG_talk_39 : decode og_c_OG_talk 39 = .ok (.pop, 1) := by decide +kernel
theorem d_OG_talk_40 : decode og_c_OG_talk 40 = .ok (.iconst 0, 1) := by decide +kernel
theorem d_OG_talk_41 : decode og_c_OG_talk 41 = .ok (.ireturn, 1) := by decide +kernel
theorem d_OG_talk_42 : decode og_c_OG_talk 42 = .ok (.aload_n 0, 1) := by decide +kernel
theorem d_OG_talk_43 : decode og_c_OG_talk 43 = .ok (.getfield 83, 3) := by decide +kernel
theorem d_OG_talk_46 : decode og_c_OG_talk 46 = .ok (.aload_n 0, 1) := by decide +kernel
theorem d_OG_talk_47 : decode og_c_OG_talk 47 = .ok (.getfield 90, 3) := by decide +kernel
theorem d_OG_talk_50 : decode og_c_OG_talk 50 = .ok (.invokevirtual 304, 3) := by decide +kernel
theorem d_OG_talk_53 : decode og_c_OG_talk 53 = .ok (.aload_n 0, 1) := by decide +kernel
theorem d_OG_talk_54 : decode og_c_OG_talk 54 = .ok (.getfield 90, 3) := by decide +kernel
theorem d_OG_talk_57 : decode og_c_OG_talk 57 = .ok (.getfield 199, 3) := by decide +kernel
theorem d_OG_talk_60 : decode og_c_OG_talk 60 = .ok (.iload_n 1, 1) := by decide +kernel
theorem d_OG_talk_61 : decode og_c_OG_talk 61 = .ok (.iload_n 2, 1) := by decide +kernel
theorem d_OG_talk_62 : decode og_c_OG_talk 62 = .ok (.iastore, 1) := by decide +kernel
theorem d_OG_talk_63 : decode og_c_OG_talk 63 = .ok (.iconst 1, 1) := by decide +kernel
theorem d_OG_talk_64 : decode og_c_OG_talk 64 = .ok (.ireturn, 1) := by decide +kernel
def m_OG_talk : og_Dn := og_den [5, 0, 0] 3 3 (og_seq (og_if (og_or (og_or (og_or (og_not (og_cb (og_call m_Yard_lives [og_fix (fun _ => 100) (og_loc 0), og_loc 1]))) (og_cc og_rlt (og_loc 2) (og_k 0))) (og_cc og_rgt (og_loc 2) (og_k 9))) (og_cc og_req (og_ald 8 (og_fix (fun i => i + 7) (og_fix (fun _ => 100) (og_loc 0))) (og_loc 1)) (og_loc 2))) (og_seq (og_exp (og_call m_OG_refuse [og_loc 0, og_k 2])) (og_retz (og_k 0))) (og_skip)) (og_seq (og_exp (og_call m_Past_keep [og_fix (fun _ => 20) (og_loc 0), og_fix (fun _ => 100) (og_loc 0)])) (og_seq (og_ast 8 (og_fix (fun i => i + 7) (og_fix (fun _ => 100) (og_loc 0))) (og_loc 1) (og_loc 2)) (og_retz (og_k 1)))))
set_option maxRecDepth 20000 in
theorem ok_OG_talk : og_MOK og_y_OG_talk og_c_OG_talk 3 3 3 [5, 0, 0] m_OG_talk := og_method (b := 0) (lt' := []) (by decide +kernel) (by decide) (by decide) (og_sseq (og_sif (T := 34) (F := 42) (og_cor (og_cor (og_cor (og_cnot (og_cbeq (tgt := 34) (og_callVz (og_acons (og_f_OG_now (og_aload_n (i := 0) (t := 3) (j := 0) (by rfl) (by rfl) d_OG_talk_0) og_w397 d_OG_talk_1) (og_acons (og_iload_n (i := 1) (j := 1) (by rfl) (by rfl) d_OG_talk_4) (og_anil))) (by decide) ok_Yard_lives (v_Yard_lives (by decide)) og_w788 d_OG_talk_5) d_OG_talk_8 (by decide))) (og_zlt (tgt := 34) (og_iload_n (i := 2) (j := 2) (by rfl) (by rfl) d_OG_talk_11) d_OG_talk_12 (by decide))) (og_igt (tgt := 34) (og_iload_n (i := 2) (j := 2) (by rfl) (by rfl) d_OG_talk_15) (og_bipush (by decide) d_OG_talk_16) d_OG_talk_18 (by decide))) (og_ccn og_n_eq (og_ine (tgt := 42) (og_iald (N := 8) (og_f_Yard_will_N (og_f_OG_now (og_aload_n (i := 0) (t := 3) (j := 0) (by rfl) (by rfl) d_OG_talk_21) og_w397 d_OG_talk_22) og_w91 d_OG_talk_25) (by rfl) (og_iload_n (i := 1) (j := 1) (by rfl) (by rfl) d_OG_talk_28) d_OG_talk_29) (og_iload_n (i := 2) (j := 2) (by rfl) (by rfl) d_OG_talk_30) d_OG_talk_31 (by decide)))) (og_sseq (og_spop (og_callVi (og_acons (og_aload_n (i := 0) (t := 3) (j := 0) (by rfl) (by rfl) d_OG_talk_34) (og_acons (og_iconst (by decide) d_OG_talk_35) (og_anil))) (by decide) ok_OG_refuse (v_OG_refuse (by decide)) og_w445 d_OG_talk_36) d_OG_talk_39) (og_sretz (og_iconst (by decide) d_OG_talk_40) d_OG_talk_41)) (og_sskip)) (og_sseq (og_callVv (og_acons (og_f_OG_past (og_aload_n (i := 0) (t := 3) (j := 0) (by rfl) (by rfl) d_OG_talk_42) og_w396 d_OG_talk_43) (og_acons (og_f_OG_now (og_aload_n (i := 0) (t := 3) (j := 0) (by rfl) (by rfl) d_OG_talk_46) og_w397 d_OG_talk_47) (og_anil))) ok_Past_keep (v_Past_keep (by decide)) og_w1027 d_OG_talk_50) (og_sseq (og_iastore (N := 8) (og_f_Yard_will_N (og_f_OG_now (og_aload_n (i := 0) (t := 3) (j := 0) (by rfl) (by rfl) d_OG_talk_53) og_w397 d_OG_talk_54) og_w91 d_OG_talk_57) (by rfl) (og_iload_n (i := 1) (j := 1) (by rfl) (by rfl) d_OG_talk_60) (og_iload_n (i := 2) (j := 2) (by rfl) (by rfl) d_OG_talk_61) d_OG_talk_62) (og_sretz (og_iconst (by decide) d_OG_talk_63) d_OG_talk_64)))) (fun h => by cases h)
abbrev og_c_OG_canPass : ByteArray := prog_1_method_41_code
abbrev og_y_OG_canPass : MethodName := ⟨"OpenGraves", "canPass", "(I)Z"⟩
theorem v_OG_canPass {own : String} {idx dep : Nat} (h : 1 + 1 ≤ dep) : og_sV own idx og_y_OG_canPass og_c_OG_canPass 2 3 1 dep 1 1 := ⟨⟨0, og_sl_OG, og_T_OG, 17, rfl, by decide, rfl⟩, og_w1049, (og_memP (⟨"OpenGraves", "canPass", "(I)Z"⟩, 17) (List.mem_of_getElem? (i := 44) (by decide +kernel))), og_w1, og_w1050, ⟨by decide +kernel, by decide +kernel, by decide +kernel⟩, h, by decide⟩
theorem d_OG_canPass_0 : decode og_c_OG_canPass 0 = .ok (.iload_n 1, 1) := by decide +kernel
theorem d_OG_canPass_1 : decode og_c_OG_canPass 1 = .ok (.iconst 1, 1) := by decide +kernel
theorem d_OG_canPass_2 : decode og_c_OG_canPass 2 = .ok (.if_icmp .lt 28, 3) := by decide +kernel
theorem d_OG_canPass_5 : decode og_c_OG_canPass 5 = .ok (.iload_n 1, 1) := by decide +kernel
theorem d_OG_canPass_6 : decode og_c_OG_canPass 6 = .ok (.bipush 100, 2) := by decide +kernel
theorem d_OG_canPass_8 : decode og_c_OG_canPass 8 = .ok (.if_icmp .gt 22, 3) := by decide +kernel
theorem d_OG_canPass_11 : decode og_c_OG_canPass 11 = .ok (.aload_n 0, 1) := by decide +kernel
theorem d_OG_canPass_12 : decode og_c_OG_canPass 12 = .ok (.getfield 90, 3) := by decide +kernel
theorem d_OG_canPass_15 : decode og_c_OG_canPass 15 = .ok (.getfield 148, 3) := by decide +kernel
theorem d_OG_canPass_18 : decode og_c_OG_canPass 18 = .ok (.iload_n 1, 1) := by decide +kernel
theorem d_OG_canPass_19 : decode og_c_OG_canPass 19 = .ok (.iadd, 1) := by decide +kernel
theorem d_OG_canPass_20 : decode og_c_OG_canPass 20 = .ok (.sipush 999, 3) := by decide +kernel
theorem d_OG_canPass_23 : decode og_c_OG_canPass 23 = .ok (.if_icmp .gt 7, 3) := by decide +kernel
theorem d_OG_canPass_26 : decode og_c_OG_canPass 26 = .ok (.iconst 1, 1) := by decide +kernel
theorem d_OG_canPass_27 : decode og_c_OG_canPass 27 = .ok (.goto 4, 3) := by decide +kernel
theorem d_OG_canPass_30 : decode og_c_OG_canPass 30 = .ok (.iconst 0, 1) := by decide +kernel
theorem d_OG_canPass_31 : decode og_c_OG_canPass 31 = .ok (.ireturn, 1) := by decide +kernel
def m_OG_canPass : og_Dn := og_den [5, 0] 2 3 (og_retz (og_ec (og_and (og_and (og_cc og_rge (og_loc 1) (og_k 1)) (og_cc og_rle (og_loc 1) (og_k 100))) (og_cc og_rle (og_add (og_get 2 (og_fix (fun _ => 100) (og_loc 0))) (og_loc 1)) (og_k 999)))))
set_option maxRecDepth 20000 in
theorem ok_OG_canPass : og_MOK og_y_OG_canPass og_c_OG_canPass 2 3 1 [5, 0] m_OG_canPass := og_method (b := 0) (lt' := []) (by decide +kernel) (by decide) (by decide) (og_sretz (og_econd (b := 0) (og_cand (og_cand (og_ccn og_n_ge (og_ilt (tgt := 30) (og_iload_n (i := 1) (j := 1) (by rfl) (by rfl) d_OG_canPass_0) (og_iconst (by decide) d_OG_canPass_1) d_OG_canPass_2 (by decide))) (og_ccn og_n_le (og_igt (tgt := 30) (og_iload_n (i := 1) (j := 1) (by rfl) (by rfl) d_OG_canPass_5) (og_bipush (by decide) d_OG_canPass_6) d_OG_canPass_8 (by decide)))) (og_ccn og_n_le (og_igt (tgt := 30) (og_iadd (og_f_Yard_month_N (og_f_OG_now (og_aload_n (i := 0) (t := 3) (j := 0) (by rfl) (by rfl) d_OG_canPass_11) og_w397 d_OG_canPass_12) og_w58 d_OG_canPass_15) (og_iload_n (i := 1) (j := 1) (by rfl) (by rfl) d_OG_canPass_18) d_OG_canPass_19) (og_sipush (by decide) d_OG_canPass_20) d_OG_canPass_23 (by decide)))) d_OG_canPass_26 d_OG_canPass_27 (by decide) d_OG_canPass_30 (by rfl)) d_OG_canPass_31) (fun h => by cases h)
abbrev og_c_OG_months : ByteArray := prog_1_method_26_code
abbrev og_y_OG_months : MethodName := ⟨"OpenGraves", "months", "(I)I"⟩
theorem v_OG_months {own : String} {idx dep : Nat} (h : 6 + 1 ≤ dep) : og_sV own idx og_y_OG_months og_c_OG_months 4 0 6 dep 1 1 := ⟨⟨0, og_sl_OG, og_T_OG, 17, rfl, by decide, rfl⟩, og_w1044, og_w1045, og_w1, og_w1046, ⟨by decide +kernel, by decide +kernel, by decide +kernel⟩, h, by decide⟩
theorem d_OG_months_0 : decode og_c_OG_months 0 = .ok (.aload_n 0, 1) := by decide +kernel
theorem d_OG_months_1 : decode og_c_OG_months 1 = .ok (.iload_n 1, 1) := by decide +kernel
theorem d_OG_months_2 : decode og_c_OG_months 2 = .ok (.invokevirtual 318, 3) := by decide +kernel
theorem d_OG_months_5 : decode og_c_OG_months 5 = .ok (.ifCond .ne 9, 3) := by decide +kernel
theorem d_OG_months_8 : decode og_c_OG_months 8 = .ok (.aload_n 0, 1) := by decide +kernel
theorem d_OG_months_9 : decode og_c_OG_months 9 = .ok (.iconst 3, 1) := by decide +kernel
theorem d_OG_months_10 : decode og_c_OG_months 10 = .ok (.invokevirtual 111, 3) := by decide +kernel
theorem d_OG_months_13 : decode og_c_OG_months 13 = .ok (.ireturn, 1) := by decide +kernel
theorem d_OG_months_14 : decode og_c_OG_months 14 = .ok (.aload_n 0, 1) := by decide +kernel
theorem d_OG_months_15 : decode og_c_OG_months 15 = .ok (.getfield 83, 3) := by decide +kernel
theorem d_OG_months_18 : decode og_c_OG_months 18 = .ok (.aload_n 0, 1) := by decide +kernel
theorem d_OG_months_19 : decode og_c_OG_months 19 = .ok (.getfield 90, 3) := by decide +kernel
theorem d_OG_months_22 : decode og_c_OG_months 22 = .ok (.invokevirtual 304, 3) := by decide +kernel
theorem d_OG_months_25 : decode og_c_OG_months 25 = .ok (.iconst 0, 1) := by decide +kernel
theorem d_OG_months_26 : decode og_c_OG_months 26 = .ok (.istore_n 2, 1) := by decide +kernel
theorem d_OG_months_27 : decode og_c_OG_months 27 = .ok (.iconst 0, 1) := by decide +kernel
theorem d_OG_months_28 : decode og_c_OG_months 28 = .ok (.istore_n 3, 1) := by decide +kernel
theorem d_OG_months_29 : decode og_c_OG_months 29 = .ok (.iload_n 3, 1) := by decide +kernel
theorem d_OG_months_30 : decode og_c_OG_months 30 = .ok (.iload_n 1, 1) := by decide +kernel
theorem d_OG_months_31 : decode og_c_OG_months 31 = .ok (.if_icmp .ge 30, 3) := by decide +kernel
theorem d_OG_months_34 : decode og_c_OG_months 34 = .ok (.iload_n 2, 1) := by decide +kernel
theorem d_OG_months_35 : decode og_c_OG_months 35 = .ok (.aload_n 0, 1) := by decide +kernel
theorem d_OG_months_36 : decode og_c_OG_months 36 = .ok (.getfield 60, 3) := by decide +kernel
theorem d_OG_months_39 : decode og_c_OG_months 39 = .ok (.aload_n 0, 1) := by decide +kernel
theorem d_OG_months_40 : decode og_c_OG_months 40 = .ok (.getfield 10, 3) := by decide +kernel
theorem d_OG_months_43 : decode og_c_OG_months 43 = .ok (.getfield 37, 3) := by decide +kernel
theorem d_OG_months_46 : decode og_c_OG_months 46 = .ok (.aload_n 0, 1) := by decide +kernel
theorem d_OG_months_47 : decode og_c_OG_months 47 = .ok (.getfield 90, 3) := by decide +kernel
theorem d_OG_months_50 : decode og_c_OG_months 50 = .ok (.invokevirtual 321, 3) := by decide +kernel
theorem d_OG_months_53 : decode og_c_OG_months 53 = .ok (.iadd, 1) := by decide +kernel
theorem d_OG_months_54 : decode og_c_OG_months 54 = .ok (.istore_n 2, 1) := by decide +kernel
theorem d_OG_months_55 : decode og_c_OG_months 55 = .ok (.iinc 3 1, 3) := by decide +kernel
theorem d_OG_months_58 : decode og_c_OG_months 58 = .ok (.goto (-29), 3) := by decide +kernel
theorem d_OG_months_61 : decode og_c_OG_months 61 = .ok (.iload_n 2, 1) := by decide +kernel
theorem d_OG_months_62 : decode og_c_OG_months 62 = .ok (.ireturn, 1) := by decide +kernel
def m_OG_months : og_Dn := og_den [5, 0] 4 0 (og_seq (og_if (og_not (og_cb (og_call m_OG_canPass [og_loc 0, og_loc 1]))) (og_ret (og_call m_OG_refuse [og_loc 0, og_k 3])) (og_skip)) (og_seq (og_exp (og_call m_Past_keep [og_fix (fun _ => 20) (og_loc 0), og_fix (fun _ => 100) (og_loc 0)])) (og_seq (og_set 2 (og_k 0)) (og_cut (og_seq (og_set 3 (og_k 0)) (og_while (og_cc og_rlt (og_loc 3) (og_loc 1)) (og_set 2 (og_add (og_loc 2) (og_call m_Almanac_pass [og_fix (fun _ => 8) (og_loc 0), og_fix (fun i => i + 2) (og_get 15 (og_loc 0)), og_fix (fun _ => 100) (og_loc 0)]))) (og_inc 3 1))) (og_ret (og_loc 2))))))
set_option maxRecDepth 20000 in
theorem ok_OG_months : og_MOK og_y_OG_months og_c_OG_months 4 0 6 [5, 0] m_OG_months := og_method (b := 0) (lt' := []) (by decide +kernel) (by decide) (by decide) (og_sseq (og_sif (T := 8) (F := 14) (og_cnot (og_cbne (tgt := 14) (og_callVz (og_acons (og_aload_n (i := 0) (t := 3) (j := 0) (by rfl) (by rfl) d_OG_months_0) (og_acons (og_iload_n (i := 1) (j := 1) (by rfl) (by rfl) d_OG_months_1) (og_anil))) (by decide) ok_OG_canPass (v_OG_canPass (by decide)) og_w1047 d_OG_months_2) d_OG_months_5 (by decide))) (og_sreti (og_callVi (og_acons (og_aload_n (i := 0) (t := 3) (j := 0) (by rfl) (by rfl) d_OG_months_8) (og_acons (og_iconst (by decide) d_OG_months_9) (og_anil))) (by decide) ok_OG_refuse (v_OG_refuse (by decide)) og_w445 d_OG_months_10) d_OG_months_13) (og_sskip)) (og_sseq (og_callVv (og_acons (og_f_OG_past (og_aload_n (i := 0) (t := 3) (j := 0) (by rfl) (by rfl) d_OG_months_14) og_w396 d_OG_months_15) (og_acons (og_f_OG_now (og_aload_n (i := 0) (t := 3) (j := 0) (by rfl) (by rfl) d_OG_months_18) og_w397 d_OG_months_19) (og_anil))) ok_Past_keep (v_Past_keep (by decide)) og_w1027 d_OG_months_22) (og_sseq (og_istore_n (i := 2) (lt' := [(0, 5), (1, 0), (2, 0)]) (og_iconst (by decide) d_OG_months_25) (by rfl) (by decide) (by decide) d_OG_months_26) (og_scut (og_sdrop (lt' := [(0, 5), (1, 0), (2, 0), (3, 0)]) (lt2 := [(0, 5), (1, 0), (2, 0)]) (og_sseq (og_istore_n (i := 3) (lt' := [(0, 5), (1, 0), (2, 0), (3, 0)]) (og_iconst (by decide) d_OG_months_27) (by rfl) (by decide) (by decide) d_OG_months_28) (og_swhile (T := 34) (F := 61) (cp0 := 55) (og_ccn og_n_lt (og_ige (tgt := 61) (og_iload_n (i := 3) (j := 3) (by rfl) (by rfl) d_OG_months_29) (og_iload_n (i := 1) (j := 1) (by rfl) (by rfl) d_OG_months_30) d_OG_months_31 (by decide))) (og_istore_n (i := 2) (lt' := [(0, 5), (1, 0), (2, 0), (3, 0)]) (og_iadd (og_iload_n (i := 2) (j := 2) (by rfl) (by rfl) d_OG_months_34) (og_callVi (og_acons (og_f_OG_almanac (og_aload_n (i := 0) (t := 3) (j := 0) (by rfl) (by rfl) d_OG_months_35) og_w393 d_OG_months_36) (og_acons (og_f_Parish_rules_N (og_f_OG_told (og_aload_n (i := 0) (t := 3) (j := 0) (by rfl) (by rfl) d_OG_months_39) og_w404 d_OG_months_40) og_w150 d_OG_months_43) (og_acons (og_f_OG_now (og_aload_n (i := 0) (t := 3) (j := 0) (by rfl) (by rfl) d_OG_months_46) og_w397 d_OG_months_47) (og_anil)))) (by decide) ok_Almanac_pass (v_Almanac_pass (by decide)) og_w1051 d_OG_months_50) d_OG_months_53) (by rfl) (by decide) (by decide) d_OG_months_54) (og_gS (b' := 29) (og_iinc (j := 3) (lt' := [(0, 5), (1, 0), (2, 0), (3, 0)]) (by rfl) (by decide) (by decide) d_OG_months_55) d_OG_months_58 (by decide)))) (by decide)) (og_sreti (og_iload_n (i := 2) (j := 2) (by rfl) (by rfl) d_OG_months_61) d_OG_months_62))))) (fun h => by cases h)
abbrev og_c_OG_drawOfHundred : ByteArray := prog_1_method_43_code
abbrev og_y_OG_drawOfHundred : MethodName := ⟨"OpenGraves", "drawOfHundred", "()I"⟩
theorem v_OG_drawOfHundred {own : String} {idx dep : Nat} (h : 1 + 1 ≤ dep) : og_sV own idx og_y_OG_drawOfHundred og_c_OG_drawOfHundred 1 0 1 dep 1 0 := ⟨⟨0, og_sl_OG, og_T_OG, 17, rfl, by decide, rfl⟩, og_w1062, (og_memP (⟨"OpenGraves", "drawOfHundred", "()I"⟩, 17) (List.mem_of_getElem? (i := 46) (by decide +kernel))), og_w1, og_w1063, ⟨by decide +kernel, by decide +kernel, by decide +kernel⟩, h, by decide⟩
theorem d_OG_drawOfHundred_0 : decode og_c_OG_drawOfHundred 0 = .ok (.aload_n 0, 1) := by decide +kernel
theorem d_OG_drawOfHundred_1 : decode og_c_OG_drawOfHundred 1 = .ok (.ldc2_w 377, 3) := by decide +kernel
theorem d_OG_drawOfHundred_4 : decode og_c_OG_drawOfHundred 4 = .ok (.aload_n 0, 1) := by decide +kernel
theorem d_OG_drawOfHundred_5 : decode og_c_OG_drawOfHundred 5 = .ok (.getfield 101, 3) := by decide +kernel
theorem d_OG_drawOfHundred_8 : decode og_c_OG_drawOfHundred 8 = .ok (.i2l, 1) := by decide +kernel
theorem d_OG_drawOfHundred_9 : decode og_c_OG_drawOfHundred 9 = .ok (.lmul, 1) := by decide +kernel
theorem d_OG_drawOfHundred_10 : decode og_c_OG_drawOfHundred 10 = .ok (.ldc2_w 379, 3) := by decide +kernel
theorem d_OG_drawOfHundred_13 : decode og_c_OG_drawOfHundred 13 = .ok (.ladd, 1) := by decide +kernel
theorem d_OG_drawOfHundred_14 : decode og_c_OG_drawOfHundred 14 = .ok (.ldc2_w 381, 3) := by decide +kernel
theorem d_OG_drawOfHundred_17 : decode og_c_OG_drawOfHundred 17 = .ok (.land, 1) := by decide +kernel
theorem d_OG_drawOfHundred_18 : decode og_c_OG_drawOfHundred 18 = .ok (.l2i, 1) := by decide +kernel
theorem d_OG_drawOfHundred_19 : decode og_c_OG_drawOfHundred 19 = .ok (.putfield 101, 3) := by decide +kernel
theorem d_OG_drawOfHundred_22 : decode og_c_OG_drawOfHundred 22 = .ok (.aload_n 0, 1) := by decide +kernel
theorem d_OG_drawOfHundred_23 : decode og_c_OG_drawOfHundred 23 = .ok (.getfield 101, 3) := by decide +kernel
theorem d_OG_drawOfHundred_26 : decode og_c_OG_drawOfHundred 26 = .ok (.bipush 64, 2) := by decide +kernel
theorem d_OG_drawOfHundred_28 : decode og_c_OG_drawOfHundred 28 = .ok (.idiv, 1) := by decide +kernel
theorem d_OG_drawOfHundred_29 : decode og_c_OG_drawOfHundred 29 = .ok (.bipush 100, 2) := by decide +kernel
theorem d_OG_drawOfHundred_31 : decode og_c_OG_drawOfHundred 31 = .ok (.irem, 1) := by decide +kernel
theorem d_OG_drawOfHundred_32 : decode og_c_OG_drawOfHundred 32 = .ok (.ireturn, 1) := by decide +kernel
def m_OG_drawOfHundred : og_Dn := og_den [5] 1 0 (og_seq (og_putf 12 (og_loc 0) (og_l2i (og_land (og_ladd (og_lmul (og_k 1103515245) (og_i2l (og_get 12 (og_loc 0)))) (og_k 12345)) (og_k 2147483647)))) (og_ret (og_rem (og_div (og_get 12 (og_loc 0)) (og_k 64)) (og_k 100))))
set_option maxRecDepth 20000 in
theorem ok_OG_drawOfHundred : og_MOK og_y_OG_drawOfHundred og_c_OG_drawOfHundred 1 0 1 [5] m_OG_drawOfHundred := og_method (b := 0) (lt' := []) (by decide +kernel) (by decide) (by decide) (og_sseq (og_p_OG_luck (og_aload_n (i := 0) (t := 3) (j := 0) (by rfl) (by rfl) d_OG_drawOfHundred_0) (og_l2i_ (og_land_ (og_ladd_ (og_lmul_ (og_ldc2 (x := 1103515245) (by decide) og_w1064 d_OG_drawOfHundred_1) (og_i2l_ (og_f_OG_luck (og_aload_n (i := 0) (t := 3) (j := 0) (by rfl) (by rfl) d_OG_drawOfHundred_4) og_w401 d_OG_drawOfHundred_5) d_OG_drawOfHundred_8) d_OG_drawOfHundred_9) (og_ldc2 (x := 12345) (by decide) og_w1065 d_OG_drawOfHundred_10) d_OG_drawOfHundred_13) (og_ldc2 (x := 2147483647) (by decide) og_w1066 d_OG_drawOfHundred_14) d_OG_drawOfHundred_17) d_OG_drawOfHundred_18) og_w401 d_OG_drawOfHundred_19) (og_sreti (og_irem (og_idiv (og_f_OG_luck (og_aload_n (i := 0) (t := 3) (j := 0) (by rfl) (by rfl) d_OG_drawOfHundred_22) og_w401 d_OG_drawOfHundred_23) (og_bipush (by decide) d_OG_drawOfHundred_26) d_OG_drawOfHundred_28) (og_bipush (by decide) d_OG_drawOfHundred_29) d_OG_drawOfHundred_31) d_OG_drawOfHundred_32)) (fun h => by cases h)
abbrev og_c_OG_drawDeaths : ByteArray := prog_1_method_42_code
abbrev og_y_OG_drawDeaths : MethodName := ⟨"OpenGraves", "drawDeaths", "()I"⟩
theorem v_OG_drawDeaths {own : String} {idx dep : Nat} (h : 5 + 1 ≤ dep) : og_sV own idx og_y_OG_drawDeaths og_c_OG_drawDeaths 3 0 5 dep 1 0 := ⟨⟨0, og_sl_OG, og_T_OG, 17, rfl, by decide, rfl⟩, og_w1058, (og_memP (⟨"OpenGraves", "drawDeaths", "()I"⟩, 17) (List.mem_of_getElem? (i := 45) (by decide +kernel))), og_w1, og_w1059, ⟨by decide +kernel, by decide +kernel, by decide +kernel⟩, h, by decide⟩
theorem d_OG_drawDeaths_0 : decode og_c_OG_drawDeaths 0 = .ok (.iconst 0, 1) := by decide +kernel
theorem d_OG_drawDeaths_1 : decode og_c_OG_drawDeaths 1 = .ok (.istore_n 1, 1) := by decide +kernel
theorem d_OG_drawDeaths_2 : decode og_c_OG_drawDeaths 2 = .ok (.iconst 0, 1) := by decide +kernel
theorem d_OG_drawDeaths_3 : decode og_c_OG_drawDeaths 3 = .ok (.istore_n 2, 1) := by decide +kernel
theorem d_OG_drawDeaths_4 : decode og_c_OG_drawDeaths 4 = .ok (.iload_n 2, 1) := by decide +kernel
theorem d_OG_drawDeaths_5 : decode og_c_OG_drawDeaths 5 = .ok (.aload_n 0, 1) := by decide +kernel
theorem d_OG_drawDeaths_6 : decode og_c_OG_drawDeaths 6 = .ok (.getfield 90, 3) := by decide +kernel
theorem d_OG_drawDeaths_9 : decode og_c_OG_drawDeaths 9 = .ok (.getfield 145, 3) := by decide +kernel
theorem d_OG_drawDeaths_12 : decode og_c_OG_drawDeaths 12 = .ok (.if_icmp .ge 52, 3) := by decide +kernel
theorem d_OG_drawDeaths_15 : decode og_c_OG_drawDeaths 15 = .ok (.aload_n 0, 1) := by decide +kernel
theorem d_OG_drawDeaths_16 : decode og_c_OG_drawDeaths 16 = .ok (.getfield 90, 3) := by decide +kernel
theorem d_OG_drawDeaths_19 : decode og_c_OG_drawDeaths 19 = .ok (.iload_n 2, 1) := by decide +kernel
theorem d_OG_drawDeaths_20 : decode og_c_OG_drawDeaths 20 = .ok (.invokevirtual 217, 3) := by decide +kernel
theorem d_OG_drawDeaths_23 : decode og_c_OG_drawDeaths 23 = .ok (.ifCond .eq 35, 3) := by decide +kernel
theorem d_OG_drawDeaths_26 : decode og_c_OG_drawDeaths 26 = .ok (.aload_n 0, 1) := by decide +kernel
theorem d_OG_drawDeaths_27 : decode og_c_OG_drawDeaths 27 = .ok (.invokevirtual 374, 3) := by decide +kernel
theorem d_OG_drawDeaths_30 : decode og_c_OG_drawDeaths 30 = .ok (.aload_n 0, 1) := by decide +kernel
theorem d_OG_drawDeaths_31 : decode og_c_OG_drawDeaths 31 = .ok (.iload_n 2, 1) := by decide +kernel
theorem d_OG_drawDeaths_32 : decode og_c_OG_drawDeaths 32 = .ok (.invokevirtual 207, 3) := by decide +kernel
theorem d_OG_drawDeaths_35 : decode og_c_OG_drawDeaths 35 = .ok (.if_icmp .ge 23, 3) := by decide +kernel
theorem d_OG_drawDeaths_38 : decode og_c_OG_drawDeaths 38 = .ok (.aload_n 0, 1) := by decide +kernel
theorem d_OG_drawDeaths_39 : decode og_c_OG_drawDeaths 39 = .ok (.getfield 90, 3) := by decide +kernel
theorem d_OG_drawDeaths_42 : decode og_c_OG_drawDeaths 42 = .ok (.iload_n 2, 1) := by decide +kernel
theorem d_OG_drawDeaths_43 : decode og_c_OG_drawDeaths 43 = .ok (.aload_n 0, 1) := by decide +kernel
theorem d_OG_drawDeaths_44 : decode og_c_OG_drawDeaths 44 = .ok (.getfield 90, 3) := by decide +kernel
theorem d_OG_drawDeaths_47 : decode og_c_OG_drawDeaths 47 = .ok (.iload_n 2, 1) := by decide +kernel
theorem d_OG_drawDeaths_48 : decode og_c_OG_drawDeaths 48 = .ok (.invokevirtual 220, 3) := by decide +kernel
theorem d_OG_drawDeaths_51 : decode og_c_OG_drawDeaths 51 = .ok (.iconst 2, 1) := by decide +kernel
theorem d_OG_drawDeaths_52 : decode og_c_OG_drawDeaths 52 = .ok (.invokevirtual 314, 3) := by decide +kernel
theorem d_OG_drawDeaths_55 : decode og_c_OG_drawDeaths 55 = .ok (.iinc 1 1, 3) := by decide +kernel
theorem d_OG_drawDeaths_58 : decode og_c_OG_drawDeaths 58 = .ok (.iinc 2 1, 3) := by decide +kernel
theorem d_OG_drawDeaths_61 : decode og_c_OG_drawDeaths 61 = .ok (.goto (-57), 3) := by decide +kernel
theorem d_OG_drawDeaths_64 : decode og_c_OG_drawDeaths 64 = .ok (.iload_n 1, 1) := by decide +kernel
theorem d_OG_drawDeaths_65 : decode og_c_OG_drawDeaths 65 = .ok (.ireturn, 1) := by decide +kernel
def m_OG_drawDeaths : og_Dn := og_den [5] 3 0 (og_seq (og_set 1 (og_k 0)) (og_cut (og_seq (og_set 2 (og_k 0)) (og_while (og_cc og_rlt (og_loc 2) (og_get 1 (og_fix (fun _ => 100) (og_loc 0)))) (og_if (og_and (og_cb (og_call m_Yard_lives [og_fix (fun _ => 100) (og_loc 0), og_loc 2])) (og_cc og_rlt (og_call m_OG_drawOfHundred [og_loc 0]) (og_call m_OG_dyingOf [og_loc 0, og_loc 2]))) (og_seq (og_exp (og_call m_Yard_bury [og_fix (fun _ => 100) (og_loc 0), og_loc 2, og_call m_Yard_nextGrave [og_fix (fun _ => 100) (og_loc 0), og_loc 2], og_k 2])) (og_inc 1 1)) (og_skip)) (og_inc 2 1))) (og_ret (og_loc 1))))
set_option maxRecDepth 20000 in
theorem ok_OG_drawDeaths : og_MOK og_y_OG_drawDeaths og_c_OG_drawDeaths 3 0 5 [5] m_OG_drawDeaths := og_method (b := 0) (lt' := []) (by decide +kernel) (by decide) (by decide) (og_sseq (og_istore_n (i := 1) (lt' := [(0, 5), (1, 0)]) (og_iconst (by decide) d_OG_drawDeaths_0) (by rfl) (by decide) (by decide) d_OG_drawDeaths_1) (og_scut (og_sdrop (lt' := [(0, 5), (1, 0), (2, 0)]) (lt2 := [(0, 5), (1, 0)]) (og_sseq (og_istore_n (i := 2) (lt' := [(0, 5), (1, 0), (2, 0)]) (og_iconst (by decide) d_OG_drawDeaths_2) (by rfl) (by decide) (by decide) d_OG_drawDeaths_3) (og_swhile (T := 15) (F := 64) (cp0 := 58) (og_ccn og_n_lt (og_ige (tgt := 64) (og_iload_n (i := 2) (j := 2) (by rfl) (by rfl) d_OG_drawDeaths_4) (og_f_Yard_people_N (og_f_OG_now (og_aload_n (i := 0) (t := 3) (j := 0) (by rfl) (by rfl) d_OG_drawDeaths_5) og_w397 d_OG_drawDeaths_6) og_w52 d_OG_drawDeaths_9) d_OG_drawDeaths_12 (by decide))) (og_sif (T := 38) (F := 58) (og_cand (og_cbeq (tgt := 58) (og_callVz (og_acons (og_f_OG_now (og_aload_n (i := 0) (t := 3) (j := 0) (by rfl) (by rfl) d_OG_drawDeaths_15) og_w397 d_OG_drawDeaths_16) (og_acons (og_iload_n (i := 2) (j := 2) (by rfl) (by rfl) d_OG_drawDeaths_19) (og_anil))) (by decide) ok_Yard_lives (v_Yard_lives (by decide)) og_w788 d_OG_drawDeaths_20) d_OG_drawDeaths_23 (by decide)) (og_ccn og_n_lt (og_ige (tgt := 58) (og_callVi (og_acons (og_aload_n (i := 0) (t := 3) (j := 0) (by rfl) (by rfl) d_OG_drawDeaths_26) (og_anil)) (by decide) ok_OG_drawOfHundred (v_OG_drawOfHundred (by decide)) og_w1060 d_OG_drawDeaths_27) (og_callVi (og_acons (og_aload_n (i := 0) (t := 3) (j := 0) (by rfl) (by rfl) d_OG_drawDeaths_30) (og_acons (og_iload_n (i := 2) (j := 2) (by rfl) (by rfl) d_OG_drawDeaths_31) (og_anil))) (by decide) ok_OG_dyingOf (v_OG_dyingOf (by decide)) og_w738 d_OG_drawDeaths_32) d_OG_drawDeaths_35 (by decide)))) (og_sseq (og_callVv (og_acons (og_f_OG_now (og_aload_n (i := 0) (t := 3) (j := 0) (by rfl) (by rfl) d_OG_drawDeaths_38) og_w397 d_OG_drawDeaths_39) (og_acons (og_iload_n (i := 2) (j := 2) (by rfl) (by rfl) d_OG_drawDeaths_42) (og_acons (og_callVi (og_acons (og_f_OG_now (og_aload_n (i := 0) (t := 3) (j := 0) (by rfl) (by rfl) d_OG_drawDeaths_43) og_w397 d_OG_drawDeaths_44) (og_acons (og_iload_n (i := 2) (j := 2) (by rfl) (by rfl) d_OG_drawDeaths_47) (og_anil))) (by decide) ok_Yard_nextGrave (v_Yard_nextGrave (by decide)) og_w793 d_OG_drawDeaths_48) (og_acons (og_iconst (by decide) d_OG_drawDeaths_51) (og_anil))))) ok_Yard_bury (v_Yard_bury (by decide)) og_w1038 d_OG_drawDeaths_52) (og_iinc (j := 1) (lt' := [(0, 5), (1, 0), (2, 0)]) (by rfl) (by decide) (by decide) d_OG_drawDeaths_55)) (og_sskip)) (og_gS (b' := 4) (og_iinc (j := 2) (lt' := [(0, 5), (1, 0), (2, 0)]) (by rfl) (by decide) (by decide) d_OG_drawDeaths_58) d_OG_drawDeaths_61 (by decide)))) (by decide)) (og_sreti (og_iload_n (i := 1) (j := 1) (by rfl) (by rfl) d_OG_drawDeaths_64) d_OG_drawDeaths_65))) (fun h => by cases h)
abbrev og_c_OG_chance : ByteArray := prog_1_method_27_code
abbrev og_y_OG_chance : MethodName := ⟨"OpenGraves", "chance", "(I)I"⟩
theorem v_OG_chance {own : String} {idx dep : Nat} (h : 6 + 1 ≤ dep) : og_sV own idx og_y_OG_chance og_c_OG_chance 4 0 6 dep 1 1 := ⟨⟨0, og_sl_OG, og_T_OG, 17, rfl, by decide, rfl⟩, og_w1053, og_w1054, og_w1, og_w1055, ⟨by decide +kernel, by decide +kernel, by decide +kernel⟩, h, by decide⟩
theorem d_OG_chance_0 : decode og_c_OG_chance 0 = .ok (.aload_n 0, 1) := by decide +kernel
theorem d_OG_chance_1 : decode og_c_OG_chance 1 = .ok (.iload_n 1, 1) := by decide +kernel
theorem d_OG_chance_2 : decode og_c_OG_chance 2 = .ok (.invokevirtual 318, 3) := by decide +kernel
theorem d_OG_chance_5 : decode og_c_OG_chance 5 = .ok (.ifCond .ne 9, 3) := by decide +kernel
theorem d_OG_chance_8 : decode og_c_OG_chance 8 = .ok (.aload_n 0, 1) := by decide +kernel
theorem d_OG_chance_9 : decode og_c_OG_chance 9 = .ok (.iconst 3, 1) := by decide +kernel
theorem d_OG_chance_10 : decode og_c_OG_chance 10 = .ok (.invokevirtual 111, 3) := by decide +kernel
theorem d_OG_chance_13 : decode og_c_OG_chance 13 = .ok (.ireturn, 1) := by decide +kernel
theorem d_OG_chance_14 : decode og_c_OG_chance 14 = .ok (.aload_n 0, 1) := by decide +kernel
theorem d_OG_chance_15 : decode og_c_OG_chance 15 = .ok (.getfield 83, 3) := by decide +kernel
theorem d_OG_chance_18 : decode og_c_OG_chance 18 = .ok (.aload_n 0, 1) := by decide +kernel
theorem d_OG_chance_19 : decode og_c_OG_chance 19 = .ok (.getfield 90, 3) := by decide +kernel
theorem d_OG_chance_22 : decode og_c_OG_chance 22 = .ok (.invokevirtual 304, 3) := by decide +kernel
theorem d_OG_chance_25 : decode og_c_OG_chance 25 = .ok (.iconst 0, 1) := by decide +kernel
theorem d_OG_chance_26 : decode og_c_OG_chance 26 = .ok (.istore_n 2, 1) := by decide +kernel
theorem d_OG_chance_27 : decode og_c_OG_chance 27 = .ok (.iconst 0, 1) := by decide +kernel
theorem d_OG_chance_28 : decode og_c_OG_chance 28 = .ok (.istore_n 3, 1) := by decide +kernel
theorem d_OG_chance_29 : decode og_c_OG_chance 29 = .ok (.iload_n 3, 1) := by decide +kernel
theorem d_OG_chance_30 : decode og_c_OG_chance 30 = .ok (.iload_n 1, 1) := by decide +kernel
theorem d_OG_chance_31 : decode og_c_OG_chance 31 = .ok (.if_icmp .ge 35, 3) := by decide +kernel
theorem d_OG_chance_34 : decode og_c_OG_chance 34 = .ok (.iload_n 2, 1) := by decide +kernel
theorem d_OG_chance_35 : decode og_c_OG_chance 35 = .ok (.aload_n 0, 1) := by decide +kernel
theorem d_OG_chance_36 : decode og_c_OG_chance 36 = .ok (.invokevirtual 325, 3) := by decide +kernel
theorem d_OG_chance_39 : decode og_c_OG_chance 39 = .ok (.iadd, 1) := by decide +kernel
theorem d_OG_chance_40 : decode og_c_OG_chance 40 = .ok (.istore_n 2, 1) := by decide +kernel
theorem d_OG_chance_41 : decode og_c_OG_chance 41 = .ok (.aload_n 0, 1) := by decide +kernel
theorem d_OG_chance_42 : decode og_c_OG_chance 42 = .ok (.getfield 60, 3) := by decide +kernel
theorem d_OG_chance_45 : decode og_c_OG_chance 45 = .ok (.aload_n 0, 1) := by decide +kernel
theorem d_OG_chance_46 : decode og_c_OG_chance 46 = .ok (.getfield 10, 3) := by decide +kernel
theorem d_OG_chance_49 : decode og_c_OG_chance 49 = .ok (.getfield 37, 3) := by decide +kernel
theorem d_OG_chance_52 : decode og_c_OG_chance 52 = .ok (.aload_n 0, 1) := by decide +kernel
theorem d_OG_chance_53 : decode og_c_OG_chance 53 = .ok (.getfield 90, 3) := by decide +kernel
theorem d_OG_chance_56 : decode og_c_OG_chance 56 = .ok (.invokevirtual 321, 3) := by decide +kernel
theorem d_OG_chance_59 : decode og_c_OG_chance 59 = .ok (.pop, 1) := by decide +kernel
theorem d_OG_chance_60 : decode og_c_OG_chance 60 = .ok (.iinc 3 1, 3) := by decide +kernel
theorem d_OG_chance_63 : decode og_c_OG_chance 63 = .ok (.goto (-34), 3) := by decide +kernel
theorem d_OG_chance_66 : decode og_c_OG_chance 66 = .ok (.iload_n 2, 1) := by decide +kernel
theorem d_OG_chance_67 : decode og_c_OG_chance 67 = .ok (.ireturn, 1) := by decide +kernel
def m_OG_chance : og_Dn := og_den [5, 0] 4 0 (og_seq (og_if (og_not (og_cb (og_call m_OG_canPass [og_loc 0, og_loc 1]))) (og_ret (og_call m_OG_refuse [og_loc 0, og_k 3])) (og_skip)) (og_seq (og_exp (og_call m_Past_keep [og_fix (fun _ => 20) (og_loc 0), og_fix (fun _ => 100) (og_loc 0)])) (og_seq (og_set 2 (og_k 0)) (og_cut (og_seq (og_set 3 (og_k 0)) (og_while (og_cc og_rlt (og_loc 3) (og_loc 1)) (og_seq (og_set 2 (og_add (og_loc 2) (og_call m_OG_drawDeaths [og_loc 0]))) (og_exp (og_call m_Almanac_pass [og_fix (fun _ => 8) (og_loc 0), og_fix (fun i => i + 2) (og_get 15 (og_loc 0)), og_fix (fun _ => 100) (og_loc 0)]))) (og_inc 3 1))) (og_ret (og_loc 2))))))
set_option maxRecDepth 20000 in
theorem ok_OG_chance : og_MOK og_y_OG_chance og_c_OG_chance 4 0 6 [5, 0] m_OG_chance := og_method (b := 0) (lt' := []) (by decide +kernel) (by decide) (by decide) (og_sseq (og_sif (T := 8) (F := 14) (og_cnot (og_cbne (tgt := 14) (og_callVz (og_acons (og_aload_n (i := 0) (t := 3) (j := 0) (by rfl) (by rfl) d_OG_chance_0) (og_acons (og_iload_n (i := 1) (j := 1) (by rfl) (by rfl) d_OG_chance_1) (og_anil))) (by decide) ok_OG_canPass (v_OG_canPass (by decide)) og_w1047 d_OG_chance_2) d_OG_chance_5 (by decide))) (og_sreti (og_callVi (og_acons (og_aload_n (i := 0) (t := 3) (j := 0) (by rfl) (by rfl) d_OG_chance_8) (og_acons (og_iconst (by decide) d_OG_chance_9) (og_anil))) (by decide) ok_OG_refuse (v_OG_refuse (by decide)) og_w445 d_OG_chance_10) d_OG_chance_13) (og_sskip)) (og_sseq (og_callVv (og_acons (og_f_OG_past (og_aload_n (i := 0) (t := 3) (j := 0) (by rfl) (by rfl) d_OG_chance_14) og_w396 d_OG_chance_15) (og_acons (og_f_OG_now (og_aload_n (i := 0) (t := 3) (j := 0) (by rfl) (by rfl) d_OG_chance_18) og_w397 d_OG_chance_19) (og_anil))) ok_Past_keep (v_Past_keep (by decide)) og_w1027 d_OG_chance_22) (og_sseq (og_istore_n (i := 2) (lt' := [(0, 5), (1, 0), (2, 0)]) (og_iconst (by decide) d_OG_chance_25) (by rfl) (by decide) (by decide) d_OG_chance_26) (og_scut (og_sdrop (lt' := [(0, 5), (1, 0), (2, 0), (3, 0)]) (lt2 := [(0, 5), (1, 0), (2, 0)]) (og_sseq (og_istore_n (i := 3) (lt' := [(0, 5), (1, 0), (2, 0), (3, 0)]) (og_iconst (by decide) d_OG_chance_27) (by rfl) (by decide) (by decide) d_OG_chance_28) (og_swhile (T := 34) (F := 66) (cp0 := 60) (og_ccn og_n_lt (og_ige (tgt := 66) (og_iload_n (i := 3) (j := 3) (by rfl) (by rfl) d_OG_chance_29) (og_iload_n (i := 1) (j := 1) (by rfl) (by rfl) d_OG_chance_30) d_OG_chance_31 (by decide))) (og_sseq (og_istore_n (i := 2) (lt' := [(0, 5), (1, 0), (2, 0), (3, 0)]) (og_iadd (og_iload_n (i := 2) (j := 2) (by rfl) (by rfl) d_OG_chance_34) (og_callVi (og_acons (og_aload_n (i := 0) (t := 3) (j := 0) (by rfl) (by rfl) d_OG_chance_35) (og_anil)) (by decide) ok_OG_drawDeaths (v_OG_drawDeaths (by decide)) og_w1056 d_OG_chance_36) d_OG_chance_39) (by rfl) (by decide) (by decide) d_OG_chance_40) (og_spop (og_callVi (og_acons (og_f_OG_almanac (og_aload_n (i := 0) (t := 3) (j := 0) (by rfl) (by rfl) d_OG_chance_41) og_w393 d_OG_chance_42) (og_acons (og_f_Parish_rules_N (og_f_OG_told (og_aload_n (i := 0) (t := 3) (j := 0) (by rfl) (by rfl) d_OG_chance_45) og_w404 d_OG_chance_46) og_w150 d_OG_chance_49) (og_acons (og_f_OG_now (og_aload_n (i := 0) (t := 3) (j := 0) (by rfl) (by rfl) d_OG_chance_52) og_w397 d_OG_chance_53) (og_anil)))) (by decide) ok_Almanac_pass (v_Almanac_pass (by decide)) og_w1051 d_OG_chance_56) d_OG_chance_59)) (og_gS (b' := 29) (og_iinc (j := 3) (lt' := [(0, 5), (1, 0), (2, 0), (3, 0)]) (by rfl) (by decide) (by decide) d_OG_chance_60) d_OG_chance_63 (by decide)))) (by decide)) (og_sreti (og_iload_n (i := 2) (j := 2) (by rfl) (by rfl) d_OG_chance_66) d_OG_chance_67))))) (fun h => by cases h)
abbrev og_c_Past_restore : ByteArray := prog_6_method_4_code
abbrev og_y_Past_restore : MethodName := ⟨"OpenGraves$Past", "restore", "(LOpenGraves$Yard;)V"⟩
theorem v_Past_restore {own : String} {idx dep : Nat} (h : 2 + 1 ≤ dep) : og_sV own idx og_y_Past_restore og_c_Past_restore 2 2 2 dep 9 1 := ⟨⟨8, og_sl_Past, og_T_Past, 3, rfl, by decide, rfl⟩, og_w1072, og_w1073, og_w16, og_w1074, ⟨by decide +kernel, by decide +kernel, by decide +kernel⟩, h, by decide⟩
theorem d_Past_restore_0 : decode og_c_Past_restore 0 = .ok (.aload_n 0, 1) := by decide +kernel
theorem d_Past_restore_1 : decode og_c_Past_restore 1 = .ok (.getfield 18, 3) := by decide +kernel
theorem d_Past_restore_4 : decode og_c_Past_restore 4 = .ok (.ifCond .le 34, 3) := by decide +kernel
theorem d_Past_restore_7 : decode og_c_Past_restore 7 = .ok (.aload_n 0, 1) := by decide +kernel
theorem d_Past_restore_8 : decode og_c_Past_restore 8 = .ok (.dup, 1) := by decide +kernel
theorem d_Past_restore_9 : decode og_c_Past_restore 9 = .ok (.getfield 18, 3) := by decide +kernel
theorem d_Past_restore_12 : decode og_c_Past_restore 12 = .ok (.iconst 1, 1) := by decide +kernel
theorem d_Past_restore_13 : decode og_c_Past_restore 13 = .ok (.isub, 1) := by decide +kernel
theorem d_Past_restore_14 : decode og_c_Past_restore 14 = .ok (.putfield 18, 3) := by decide +kernel
theorem d_Past_restore_17 : decode og_c_Past_restore 17 = .ok (.aload_n 1, 1) := by decide +kernel
theorem d_Past_restore_18 : decode og_c_Past_restore 18 = .ok (.aload_n 0, 1) := by decide +kernel
theorem d_Past_restore_19 : decode og_c_Past_restore 19 = .ok (.getfield 11, 3) := by decide +kernel
theorem d_Past_restore_22 : decode og_c_Past_restore 22 = .ok (.aload_n 0, 1) := by decide +kernel
theorem d_Past_restore_23 : decode og_c_Past_restore 23 = .ok (.getfield 22, 3) := by decide +kernel
theorem d_Past_restore_26 : decode og_c_Past_restore 26 = .ok (.aload_n 0, 1) := by decide +kernel
theorem d_Past_restore_27 : decode og_c_Past_restore 27 = .ok (.getfield 18, 3) := by decide +kernel
theorem d_Past_restore_30 : decode og_c_Past_restore 30 = .ok (.iadd, 1) := by decide +kernel
theorem d_Past_restore_31 : decode og_c_Past_restore 31 = .ok (.bipush 20, 2) := by decide +kernel
theorem d_Past_restore_33 : decode og_c_Past_restore 33 = .ok (.irem, 1) := by decide +kernel
theorem d_Past_restore_34 : decode og_c_Past_restore 34 = .ok (.aaload, 1) := by decide +kernel
theorem d_Past_restore_35 : decode og_c_Past_restore 35 = .ok (.invokevirtual 25, 3) := by decide +kernel
theorem d_Past_restore_38 : decode og_c_Past_restore 38 = .ok (.return_, 1) := by decide +kernel
def m_Past_restore : og_Dn := og_den [13, 16] 2 2 (og_if (og_cc og_rgt (og_get 1 (og_loc 0)) (og_k 0)) (og_seq (og_pop32 og_psub 1 (og_loc 0) (og_k 1)) (og_exp (og_call m_Yard_become [og_loc 1, og_yld (og_fix (fun _ => 21) (og_loc 0)) (og_rem (og_add (og_get 2 (og_loc 0)) (og_get 1 (og_loc 0))) (og_k 20))]))) (og_skip))
set_option maxRecDepth 20000 in
theorem ok_Past_restore : og_MOK og_y_Past_restore og_c_Past_restore 2 2 2 [13, 16] m_Past_restore := og_method (b := 38) (lt' := [(0, 13), (1, 16)]) (by decide +kernel) (by decide) (by decide) (og_sif (T := 7) (F := 38) (og_ccn og_n_gt (og_zle (tgt := 38) (og_f_Past_count (og_aload_n (i := 0) (t := 11) (j := 0) (by rfl) (by rfl) d_Past_restore_0) og_w377 d_Past_restore_1) d_Past_restore_4 (by decide))) (og_sseq (og_qsub_Past_count (og_aload_n (i := 0) (t := 11) (j := 0) (by rfl) (by rfl) d_Past_restore_7) d_Past_restore_8 d_Past_restore_9 (og_iconst (by decide) d_Past_restore_12) d_Past_restore_13 og_w377 d_Past_restore_14) (og_callVv (og_acons (og_aload_n (i := 1) (t := 14) (j := 1) (by rfl) (by rfl) d_Past_restore_17) (og_acons (og_yald (og_f_Past_yards (og_aload_n (i := 0) (t := 11) (j := 0) (by rfl) (by rfl) d_Past_restore_18) og_w376 d_Past_restore_19) (og_irem (og_iadd (og_f_Past_oldest (og_aload_n (i := 0) (t := 11) (j := 0) (by rfl) (by rfl) d_Past_restore_22) og_w379 d_Past_restore_23) (og_f_Past_count (og_aload_n (i := 0) (t := 11) (j := 0) (by rfl) (by rfl) d_Past_restore_26) og_w377 d_Past_restore_27) d_Past_restore_30) (og_bipush (by decide) d_Past_restore_31) d_Past_restore_33) d_Past_restore_34) (og_anil))) ok_Yard_become (v_Yard_become (by decide)) og_w1031 d_Past_restore_35)) (og_sskip)) (fun _ => d_Past_restore_38)
abbrev og_c_OG_undo : ByteArray := prog_1_method_28_code
abbrev og_y_OG_undo : MethodName := ⟨"OpenGraves", "undo", "()Z"⟩
theorem v_OG_undo {own : String} {idx dep : Nat} (h : 3 + 1 ≤ dep) : og_sV own idx og_y_OG_undo og_c_OG_undo 1 3 3 dep 1 0 := ⟨⟨0, og_sl_OG, og_T_OG, 17, rfl, by decide, rfl⟩, og_w1068, og_w1069, og_w1, og_w1070, ⟨by decide +kernel, by decide +kernel, by decide +kernel⟩, h, by decide⟩
theorem d_OG_undo_0 : decode og_c_OG_undo 0 = .ok (.aload_n 0, 1) := by decide +kernel
theorem d_OG_undo_1 : decode og_c_OG_undo 1 = .ok (.getfield 83, 3) := by decide +kernel
theorem d_OG_undo_4 : decode og_c_OG_undo 4 = .ok (.getfield 164, 3) := by decide +kernel
theorem d_OG_undo_7 : decode og_c_OG_undo 7 = .ok (.ifCond .ne 11, 3) := by decide +kernel
theorem d_OG_undo_10 : decode og_c_OG_undo 10 = .ok (.aload_n 0, 1) := by decide +kernel
theorem d_OG_undo_11 : decode og_c_OG_undo 11 = .ok (.iconst 4, 1) := by decide +kernel
theorem d_OG_undo_12 : decode og_c_OG_undo 12 = .ok (.invokevirtual 111, 3) := by decide +kernel
theorem d_OG_undo_15 : decode og_c_OG_undo 15 = .ok (.pop, 1) := by decide +kernel
theorem d_OG_undo_16 : decode og_c_OG_undo 16 = .ok (.iconst 0, 1) := by decide +kernel
theorem d_OG_undo_17 : decode og_c_OG_undo 17 = .ok (.ireturn, 1) := by decide +kernel
theorem d_OG_undo_18 : decode og_c_OG_undo 18 = .ok (.aload_n 0, 1) := by decide +kernel
theorem d_OG_undo_19 : decode og_c_OG_undo 19 = .ok (.getfield 83, 3) := by decide +kernel
theorem d_OG_undo_22 : decode og_c_OG_undo 22 = .ok (.aload_n 0, 1) := by decide +kernel
theorem d_OG_undo_23 : decode og_c_OG_undo 23 = .ok (.getfield 90, 3) := by decide +kernel
theorem d_OG_undo_26 : decode og_c_OG_undo 26 = .ok (.invokevirtual 328, 3) := by decide +kernel
theorem d_OG_undo_29 : decode og_c_OG_undo 29 = .ok (.iconst 1, 1) := by decide +kernel
theorem d_OG_undo_30 : decode og_c_OG_undo 30 = .ok (.ireturn, 1) := by decide +kernel
def m_OG_undo : og_Dn := og_den [5] 1 3 (og_seq (og_if (og_cc og_req (og_get 1 (og_fix (fun _ => 20) (og_loc 0))) (og_k 0)) (og_seq (og_exp (og_call m_OG_refuse [og_loc 0, og_k 4])) (og_retz (og_k 0))) (og_skip)) (og_seq (og_exp (og_call m_Past_restore [og_fix (fun _ => 20) (og_loc 0), og_fix (fun _ => 100) (og_loc 0)])) (og_retz (og_k 1))))
set_option maxRecDepth 20000 in
theorem ok_OG_undo : og_MOK og_y_OG_undo og_c_OG_undo 1 3 3 [5] m_OG_undo := og_method (b := 0) (lt' := []) (by decide +kernel) (by decide) (by decide) (og_sseq (og_sif (T := 10) (F := 18) (og_ccn og_n_eq (og_zne (tgt := 18) (og_f_Past_count_N (og_f_OG_past (og_aload_n (i := 0) (t := 3) (j := 0) (by rfl) (by rfl) d_OG_undo_0) og_w396 d_OG_undo_1) og_w378 d_OG_undo_4) d_OG_undo_7 (by decide))) (og_sseq (og_spop (og_callVi (og_acons (og_aload_n (i := 0) (t := 3) (j := 0) (by rfl) (by rfl) d_OG_undo_10) (og_acons (og_iconst (by decide) d_OG_undo_11) (og_anil))) (by decide) ok_OG_refuse (v_OG_refuse (by decide)) og_w445 d_OG_undo_12) d_OG_undo_15) (og_sretz (og_iconst (by decide) d_OG_undo_16) d_OG_undo_17)) (og_sskip)) (og_sseq (og_callVv (og_acons (og_f_OG_past (og_aload_n (i := 0) (t := 3) (j := 0) (by rfl) (by rfl) d_OG_undo_18) og_w396 d_OG_undo_19) (og_acons (og_f_OG_now (og_aload_n (i := 0) (t := 3) (j := 0) (by rfl) (by rfl) d_OG_undo_22) og_w397 d_OG_undo_23) (og_anil))) ok_Past_restore (v_Past_restore (by decide)) og_w1071 d_OG_undo_26) (og_sretz (og_iconst (by decide) d_OG_undo_29) d_OG_undo_30))) (fun h => by cases h)
abbrev og_c_OG_seed : ByteArray := prog_1_method_29_code
abbrev og_y_OG_seed : MethodName := ⟨"OpenGraves", "seed", "(I)Z"⟩
theorem v_OG_seed {own : String} {idx dep : Nat} (h : 2 + 1 ≤ dep) : og_sV own idx og_y_OG_seed og_c_OG_seed 2 3 2 dep 1 1 := ⟨⟨0, og_sl_OG, og_T_OG, 17, rfl, by decide, rfl⟩, og_w1076, og_w1077, og_w1, og_w1078, ⟨by decide +kernel, by decide +kernel, by decide +kernel⟩, h, by decide⟩
theorem d_OG_seed_0 : decode og_c_OG_seed 0 = .ok (.iload_n 1, 1) := by decide +kernel
theorem d_OG_seed_1 : decode og_c_OG_seed 1 = .ok (.ifCond .ge 11, 3) := by decide +kernel
theorem d_OG_seed_4 : decode og_c_OG_seed 4 = .ok (.aload_n 0, 1) := by decide +kernel
theorem d_OG_seed_5 : decode og_c_OG_seed 5 = .ok (.iconst 5, 1) := by decide +kernel
theorem d_OG_seed_6 : decode og_c_OG_seed 6 = .ok (.invokevirtual 111, 3) := by decide +kernel
theorem d_OG_seed_9 : decode og_c_OG_seed 9 = .ok (.pop, 1) := by decide +kernel
theorem d_OG_seed_10 : decode og_c_OG_seed 10 = .ok (.iconst 0, 1) := by decide +kernel
theorem d_OG_seed_11 : decode og_c_OG_seed 11 = .ok (.ireturn, 1) := by decide +kernel
theorem d_OG_seed_12 : decode og_c_OG_seed 12 = .ok (.aload_n 0, 1) := by decide +kernel
theorem d_OG_seed_13 : decode og_c_OG_seed 13 = .ok (.iload_n 1, 1) := by decide +kernel
theorem d_OG_seed_14 : decode og_c_OG_seed 14 = .ok (.putfield 101, 3) := by decide +kernel
theorem d_OG_seed_17 : decode og_c_OG_seed 17 = .ok (.iconst 1, 1) := by decide +kernel
theorem d_OG_seed_18 : decode og_c_OG_seed 18 = .ok (.ireturn, 1) := by decide +kernel
def m_OG_seed : og_Dn := og_den [5, 0] 2 3 (og_seq (og_if (og_cc og_rlt (og_loc 1) (og_k 0)) (og_seq (og_exp (og_call m_OG_refuse [og_loc 0, og_k 5])) (og_retz (og_k 0))) (og_skip)) (og_seq (og_putf 12 (og_loc 0) (og_loc 1)) (og_retz (og_k 1))))
set_option maxRecDepth 20000 in
theorem ok_OG_seed : og_MOK og_y_OG_seed og_c_OG_seed 2 3 2 [5, 0] m_OG_seed := og_method (b := 0) (lt' := []) (by decide +kernel) (by decide) (by decide) (og_sseq (og_sif (T := 4) (F := 12) (og_ccn og_n_lt (og_zge (tgt := 12) (og_iload_n (i := 1) (j := 1) (by rfl) (by rfl) d_OG_seed_0) d_OG_seed_1 (by decide))) (og_sseq (og_spop (og_callVi (og_acons (og_aload_n (i := 0) (t := 3) (j := 0) (by rfl) (by rfl) d_OG_seed_4) (og_acons (og_iconst (by decide) d_OG_seed_5) (og_anil))) (by decide) ok_OG_refuse (v_OG_refuse (by decide)) og_w445 d_OG_seed_6) d_OG_seed_9) (og_sretz (og_iconst (by decide) d_OG_seed_10) d_OG_seed_11)) (og_sskip)) (og_sseq (og_p_OG_luck (og_aload_n (i := 0) (t := 3) (j := 0) (by rfl) (by rfl) d_OG_seed_12) (og_iload_n (i := 1) (j := 1) (by rfl) (by rfl) d_OG_seed_13) og_w401 d_OG_seed_14) (og_sretz (og_iconst (by decide) d_OG_seed_17) d_OG_seed_18))) (fun h => by cases h)
abbrev og_c_Grammar_readQuestion : ByteArray := prog_3_method_2_code
abbrev og_y_Grammar_readQuestion : MethodName := ⟨"OpenGraves$Grammar", "readQuestion", "(LOpenGraves$Script;)I"⟩
theorem v_Grammar_readQuestion {own : String} {idx dep : Nat} (h : 87 + 1 ≤ dep) : og_sV own idx og_y_Grammar_readQuestion og_c_Grammar_readQuestion 3 0 87 dep 4 1 := ⟨⟨3, og_sl_Grammar, og_T_Grammar, 3, rfl, by decide, rfl⟩, og_w1084, og_w1085, og_w11, og_w1086, ⟨by decide +kernel, by decide +kernel, by decide +kernel⟩, h, by decide⟩
theorem d_Grammar_readQuestion_0 : decode og_c_Grammar_readQuestion 0 = .ok (.aload_n 1, 1) := by decide +kernel
theorem d_Grammar_readQuestion_1 : decode og_c_Grammar_readQuestion 1 = .ok (.invokevirtual 19, 3) := by decide +kernel
theorem d_Grammar_readQuestion_4 : decode og_c_Grammar_readQuestion 4 = .ok (.aload_n 0, 1) := by decide +kernel
theorem d_Grammar_readQuestion_5 : decode og_c_Grammar_readQuestion 5 = .ok (.getfield 9, 3) := by decide +kernel
theorem d_Grammar_readQuestion_8 : decode og_c_Grammar_readQuestion 8 = .ok (.invokevirtual 24, 3) := by decide +kernel
theorem d_Grammar_readQuestion_11 : decode og_c_Grammar_readQuestion 11 = .ok (.aload_n 0, 1) := by decide +kernel
theorem d_Grammar_readQuestion_12 : decode og_c_Grammar_readQuestion 12 = .ok (.getfield 9, 3) := by decide +kernel
theorem d_Grammar_readQuestion_15 : decode og_c_Grammar_readQuestion 15 = .ok (.invokevirtual 29, 3) := by decide +kernel
theorem d_Grammar_readQuestion_18 : decode og_c_Grammar_readQuestion 18 = .ok (.istore_n 2, 1) := by decide +kernel
theorem d_Grammar_readQuestion_19 : decode og_c_Grammar_readQuestion 19 = .ok (.iload_n 2, 1) := by decide +kernel
theorem d_Grammar_readQuestion_20 : decode og_c_Grammar_readQuestion 20 = .ok (.bipush 25, 2) := by decide +kernel
theorem d_Grammar_readQuestion_22 : decode og_c_Grammar_readQuestion 22 = .ok (.if_icmp .ge 13, 3) := by decide +kernel
theorem d_Grammar_readQuestion_25 : decode og_c_Grammar_readQuestion 25 = .ok (.aload_n 0, 1) := by decide +kernel
theorem d_Grammar_readQuestion_26 : decode og_c_Grammar_readQuestion 26 = .ok (.getfield 9, 3) := by decide +kernel
theorem d_Grammar_readQuestion_29 : decode og_c_Grammar_readQuestion 29 = .ok (.iconst 1, 1) := by decide +kernel
theorem d_Grammar_readQuestion_30 : decode og_c_Grammar_readQuestion 30 = .ok (.invokevirtual 33, 3) := by decide +kernel
theorem d_Grammar_readQuestion_33 : decode og_c_Grammar_readQuestion 33 = .ok (.iconst (-1), 1) := by decide +kernel
theorem d_Grammar_readQuestion_34 : decode og_c_Grammar_readQuestion 34 = .ok (.ireturn, 1) := by decide +kernel
theorem d_Grammar_readQuestion_35 : decode og_c_Grammar_readQuestion 35 = .ok (.aload_n 0, 1) := by decide +kernel
theorem d_Grammar_readQuestion_36 : decode og_c_Grammar_readQuestion 36 = .ok (.getfield 9, 3) := by decide +kernel
theorem d_Grammar_readQuestion_39 : decode og_c_Grammar_readQuestion 39 = .ok (.invokevirtual 37, 3) := by decide +kernel
theorem d_Grammar_readQuestion_42 : decode og_c_Grammar_readQuestion 42 = .ok (.aload_n 0, 1) := by decide +kernel
theorem d_Grammar_readQuestion_43 : decode og_c_Grammar_readQuestion 43 = .ok (.aload_n 1, 1) := by decide +kernel
theorem d_Grammar_readQuestion_44 : decode og_c_Grammar_readQuestion 44 = .ok (.bipush 13, 2) := by decide +kernel
theorem d_Grammar_readQuestion_46 : decode og_c_Grammar_readQuestion 46 = .ok (.iload_n 2, 1) := by decide +kernel
theorem d_Grammar_readQuestion_47 : decode og_c_Grammar_readQuestion 47 = .ok (.bipush 25, 2) := by decide +kernel
theorem d_Grammar_readQuestion_49 : decode og_c_Grammar_readQuestion 49 = .ok (.if_icmp .eq 15, 3) := by decide +kernel
theorem d_Grammar_readQuestion_52 : decode og_c_Grammar_readQuestion 52 = .ok (.iload_n 2, 1) := by decide +kernel
theorem d_Grammar_readQuestion_53 : decode og_c_Grammar_readQuestion 53 = .ok (.bipush 26, 2) := by decide +kernel
theorem d_Grammar_readQuestion_55 : decode og_c_Grammar_readQuestion 55 = .ok (.if_icmp .eq 9, 3) := by decide +kernel
theorem d_Grammar_readQuestion_58 : decode og_c_Grammar_readQuestion 58 = .ok (.iload_n 2, 1) := by decide +kernel
theorem d_Grammar_readQuestion_59 : decode og_c_Grammar_readQuestion 59 = .ok (.bipush 27, 2) := by decide +kernel
theorem d_Grammar_readQuestion_61 : decode og_c_Grammar_readQuestion 61 = .ok (.if_icmp .ne 7, 3) := by decide +kernel
theorem d_Grammar_readQuestion_64 : decode og_c_Grammar_readQuestion 64 = .ok (.iconst 1, 1) := by decide +kernel
theorem d_Grammar_readQuestion_65 : decode og_c_Grammar_readQuestion 65 = .ok (.goto 4, 3) := by decide +kernel
theorem d_Grammar_readQuestion_68 : decode og_c_Grammar_readQuestion 68 = .ok (.iconst 0, 1) := by decide +kernel
theorem d_Grammar_readQuestion_69 : decode og_c_Grammar_readQuestion 69 = .ok (.invokevirtual 40, 3) := by decide +kernel
theorem d_Grammar_readQuestion_72 : decode og_c_Grammar_readQuestion 72 = .ok (.aload_n 0, 1) := by decide +kernel
theorem d_Grammar_readQuestion_73 : decode og_c_Grammar_readQuestion 73 = .ok (.getfield 9, 3) := by decide +kernel
theorem d_Grammar_readQuestion_76 : decode og_c_Grammar_readQuestion 76 = .ok (.invokevirtual 44, 3) := by decide +kernel
theorem d_Grammar_readQuestion_79 : decode og_c_Grammar_readQuestion 79 = .ok (.ifCond .eq 11, 3) := by decide +kernel
theorem d_Grammar_readQuestion_82 : decode og_c_Grammar_readQuestion 82 = .ok (.aload_n 0, 1) := by decide +kernel
theorem d_Grammar_readQuestion_83 : decode og_c_Grammar_readQuestion 83 = .ok (.getfield 9, 3) := by decide +kernel
theorem d_Grammar_readQuestion_86 : decode og_c_Grammar_readQuestion 86 = .ok (.iconst 1, 1) := by decide +kernel
theorem d_Grammar_readQuestion_87 : decode og_c_Grammar_readQuestion 87 = .ok (.invokevirtual 33, 3) := by decide +kernel
theorem d_Grammar_readQuestion_90 : decode og_c_Grammar_readQuestion 90 = .ok (.aload_n 0, 1) := by decide +kernel
theorem d_Grammar_readQuestion_91 : decode og_c_Grammar_readQuestion 91 = .ok (.getfield 9, 3) := by decide +kernel
theorem d_Grammar_readQuestion_94 : decode og_c_Grammar_readQuestion 94 = .ok (.getfield 48, 3) := by decide +kernel
theorem d_Grammar_readQuestion_97 : decode og_c_Grammar_readQuestion 97 = .ok (.ifCond .ne 7, 3) := by decide +kernel
theorem d_Grammar_readQuestion_100 : decode og_c_Grammar_readQuestion 100 = .ok (.iload_n 2, 1) := by decide +kernel
theorem d_Grammar_readQuestion_101 : decode og_c_Grammar_readQuestion 101 = .ok (.goto 4, 3) := by decide +kernel
theorem d_Grammar_readQuestion_104 : decode og_c_Grammar_readQuestion 104 = .ok (.iconst (-1), 1) := by decide +kernel
theorem d_Grammar_readQuestion_105 : decode og_c_Grammar_readQuestion 105 = .ok (.ireturn, 1) := by decide +kernel
def m_Grammar_readQuestion : og_Dn := og_den [8, 15] 3 0 (og_seq (og_exp (og_call m_Script_clear [og_loc 1])) (og_seq (og_exp (og_call m_Tokens_begin [og_fix (fun _ => 3) (og_loc 0)])) (og_seq (og_set 2 (og_call m_Tokens_word [og_fix (fun _ => 3) (og_loc 0)])) (og_seq (og_if (og_cc og_rlt (og_loc 2) (og_k 25)) (og_seq (og_exp (og_call m_Tokens_fail [og_fix (fun _ => 3) (og_loc 0), og_k 1])) (og_ret (og_k (-1)))) (og_skip)) (og_seq (og_exp (og_call m_Tokens_step [og_fix (fun _ => 3) (og_loc 0)])) (og_seq (og_exp (og_call m_Grammar_readRule [og_loc 0, og_loc 1, og_k 13, og_ec (og_or (og_or (og_cc og_req (og_loc 2) (og_k 25)) (og_cc og_req (og_loc 2) (og_k 26))) (og_cc og_req (og_loc 2) (og_k 27)))])) (og_cut (og_if (og_cb (og_call m_Tokens_goesOn [og_fix (fun _ => 3) (og_loc 0)])) (og_exp (og_call m_Tokens_fail [og_fix (fun _ => 3) (og_loc 0), og_k 1])) (og_skip)) (og_ret (og_ei (og_cc og_req (og_get 7 (og_fix (fun _ => 3) (og_loc 0))) (og_k 0)) (og_loc 2) (og_k (-1)))))))))))
set_option maxRecDepth 20000 in
theorem ok_Grammar_readQuestion : og_MOK og_y_Grammar_readQuestion og_c_Grammar_readQuestion 3 0 87 [8, 15] m_Grammar_readQuestion := og_method (b := 0) (lt' := []) (by decide +kernel) (by decide) (by decide) (og_sseq (og_callVv (og_acons (og_aload_n (i := 1) (t := 13) (j := 1) (by rfl) (by rfl) d_Grammar_readQuestion_0) (og_anil)) ok_Script_clear (v_Script_clear (by decide)) og_w1087 d_Grammar_readQuestion_1) (og_sseq (og_callVv (og_acons (og_f_Grammar_tokens (og_aload_n (i := 0) (t := 6) (j := 0) (by rfl) (by rfl) d_Grammar_readQuestion_4) og_w276 d_Grammar_readQuestion_5) (og_anil)) ok_Tokens_begin (v_Tokens_begin (by decide)) og_w1088 d_Grammar_readQuestion_8) (og_sseq (og_istore_n (i := 2) (lt' := [(0, 8), (1, 15), (2, 0)]) (og_callVi (og_acons (og_f_Grammar_tokens (og_aload_n (i := 0) (t := 6) (j := 0) (by rfl) (by rfl) d_Grammar_readQuestion_11) og_w276 d_Grammar_readQuestion_12) (og_anil)) (by decide) ok_Tokens_word (v_Tokens_word (by decide)) og_w630 d_Grammar_readQuestion_15) (by rfl) (by decide) (by decide) d_Grammar_readQuestion_18) (og_sseq (og_sif (T := 25) (F := 35) (og_ccn og_n_lt (og_ige (tgt := 35) (og_iload_n (i := 2) (j := 2) (by rfl) (by rfl) d_Grammar_readQuestion_19) (og_bipush (by decide) d_Grammar_readQuestion_20) d_Grammar_readQuestion_22 (by decide))) (og_sseq (og_callVv (og_acons (og_f_Grammar_tokens (og_aload_n (i := 0) (t := 6) (j := 0) (by rfl) (by rfl) d_Grammar_readQuestion_25) og_w276 d_Grammar_readQuestion_26) (og_acons (og_iconst (by decide) d_Grammar_readQuestion_29) (og_anil))) ok_Tokens_fail (v_Tokens_fail (by decide)) og_w594 d_Grammar_readQuestion_30) (og_sreti (og_iconst (by decide) d_Grammar_readQuestion_33) d_Grammar_readQuestion_34)) (og_sskip)) (og_sseq (og_callVv (og_acons (og_f_Grammar_tokens (og_aload_n (i := 0) (t := 6) (j := 0) (by rfl) (by rfl) d_Grammar_readQuestion_35) og_w276 d_Grammar_readQuestion_36) (og_anil)) ok_Tokens_step (v_Tokens_step (by decide)) og_w595 d_Grammar_readQuestion_39) (og_sseq (og_callVv (og_acons (og_aload_n (i := 0) (t := 6) (j := 0) (by rfl) (by rfl) d_Grammar_readQuestion_42) (og_acons (og_aload_n (i := 1) (t := 13) (j := 1) (by rfl) (by rfl) d_Grammar_readQuestion_43) (og_acons (og_bipush (by decide) d_Grammar_readQuestion_44) (og_acons (og_econd (b := 0) (og_cor (og_cor (og_ieq (tgt := 64) (og_iload_n (i := 2) (j := 2) (by rfl) (by rfl) d_Grammar_readQuestion_46) (og_bipush (by decide) d_Grammar_readQuestion_47) d_Grammar_readQuestion_49 (by decide)) (og_ieq (tgt := 64) (og_iload_n (i := 2) (j := 2) (by rfl) (by rfl) d_Grammar_readQuestion_52) (og_bipush (by decide) d_Grammar_readQuestion_53) d_Grammar_readQuestion_55 (by decide))) (og_ccn og_n_eq (og_ine (tgt := 68) (og_iload_n (i := 2) (j := 2) (by rfl) (by rfl) d_Grammar_readQuestion_58) (og_bipush (by decide) d_Grammar_readQuestion_59) d_Grammar_readQuestion_61 (by decide)))) d_Grammar_readQuestion_64 d_Grammar_readQuestion_65 (by decide) d_Grammar_readQuestion_68 (by rfl)) (og_anil))))) ok_Grammar_readRule (v_Grammar_readRule (by decide)) og_w1089 d_Grammar_readQuestion_69) (og_scut (og_sif (T := 82) (F := 90) (og_cbeq (tgt := 90) (og_callVz (og_acons (og_f_Grammar_tokens (og_aload_n (i := 0) (t := 6) (j := 0) (by rfl) (by rfl) d_Grammar_readQuestion_72) og_w276 d_Grammar_readQuestion_73) (og_anil)) (by decide) ok_Tokens_goesOn (v_Tokens_goesOn (by decide)) og_w1090 d_Grammar_readQuestion_76) d_Grammar_readQuestion_79 (by decide)) (og_callVv (og_acons (og_f_Grammar_tokens (og_aload_n (i := 0) (t := 6) (j := 0) (by rfl) (by rfl) d_Grammar_readQuestion_82) og_w276 d_Grammar_readQuestion_83) (og_acons (og_iconst (by decide) d_Grammar_readQuestion_86) (og_anil))) ok_Tokens_fail (v_Tokens_fail (by decide)) og_w594 d_Grammar_readQuestion_87) (og_sskip)) (og_sreti (og_eite (og_ccn og_n_eq (og_zne (tgt := 104) (og_f_Tokens_faultKind_N (og_f_Grammar_tokens (og_aload_n (i := 0) (t := 6) (j := 0) (by rfl) (by rfl) d_Grammar_readQuestion_90) og_w276 d_Grammar_readQuestion_91) og_w242 d_Grammar_readQuestion_94) d_Grammar_readQuestion_97 (by decide))) (og_iload_n (i := 2) (j := 2) (by rfl) (by rfl) d_Grammar_readQuestion_100) d_Grammar_readQuestion_101 (by decide) (og_iconst (by decide) d_Grammar_readQuestion_104)) d_Grammar_readQuestion_105)))))))) (fun h => by cases h)
abbrev og_c_OG_joined : ByteArray := prog_1_method_44_code
abbrev og_y_OG_joined : MethodName := ⟨"OpenGraves", "joined", "(IJII)J"⟩
theorem v_OG_joined {dep : Nat} (h : 1 + 1 ≤ dep) : og_sS og_y_OG_joined og_c_OG_joined 5 1 1 dep 4 := ⟨og_w1093, og_w1, og_w1094, ⟨by decide +kernel, by decide +kernel, by decide +kernel⟩, h, by decide⟩
theorem d_OG_joined_0 : decode og_c_OG_joined 0 = .ok (.iload_n 0, 1) := by decide +kernel
theorem d_OG_joined_1 : decode og_c_OG_joined 1 = .ok (.tableswitch 105 25 30 #[39, 59, 105, 105, 71, 88], 39) := by decide +kernel
theorem d_OG_joined_40 : decode og_c_OG_joined 40 = .ok (.lload_n 1, 1) := by decide +kernel
theorem d_OG_joined_41 : decode og_c_OG_joined 41 = .ok (.ldc2_w 335, 3) := by decide +kernel
theorem d_OG_joined_44 : decode og_c_OG_joined 44 = .ok (.lcmp, 1) := by decide +kernel
theorem d_OG_joined_45 : decode og_c_OG_joined 45 = .ok (.ifCond .ne 13, 3) := by decide +kernel
theorem d_OG_joined_48 : decode og_c_OG_joined 48 = .ok (.iload_n 3, 1) := by decide +kernel
theorem d_OG_joined_49 : decode og_c_OG_joined 49 = .ok (.ifCond .eq 9, 3) := by decide +kernel
theorem d_OG_joined_52 : decode og_c_OG_joined 52 = .ok (.iload 4, 2) := by decide +kernel
theorem d_OG_joined_54 : decode og_c_OG_joined 54 = .ok (.i2l, 1) := by decide +kernel
theorem d_OG_joined_55 : decode og_c_OG_joined 55 = .ok (.goto 4, 3) := by decide +kernel
theorem d_OG_joined_58 : decode og_c_OG_joined 58 = .ok (.lload_n 1, 1) := by decide +kernel
theorem d_OG_joined_59 : decode og_c_OG_joined 59 = .ok (.lreturn, 1) := by decide +kernel
theorem d_OG_joined_60 : decode og_c_OG_joined 60 = .ok (.iload_n 3, 1) := by decide +kernel
theorem d_OG_joined_61 : decode og_c_OG_joined 61 = .ok (.ifCond .eq 9, 3) := by decide +kernel
theorem d_OG_joined_64 : decode og_c_OG_joined 64 = .ok (.iload 4, 2) := by decide +kernel
theorem d_OG_joined_66 : decode og_c_OG_joined 66 = .ok (.i2l, 1) := by decide +kernel
theorem d_OG_joined_67 : decode og_c_OG_joined 67 = .ok (.goto 4, 3) := by decide +kernel
theorem d_OG_joined_70 : decode og_c_OG_joined 70 = .ok (.lload_n 1, 1) := by decide +kernel
theorem d_OG_joined_71 : decode og_c_OG_joined 71 = .ok (.lreturn, 1) := by decide +kernel
theorem d_OG_joined_72 : decode og_c_OG_joined 72 = .ok (.iload 4, 2) := by decide +kernel
theorem d_OG_joined_74 : decode og_c_OG_joined 74 = .ok (.ifCond .ne 8, 3) := by decide +kernel
theorem d_OG_joined_77 : decode og_c_OG_joined 77 = .ok (.iload_n 3, 1) := by decide +kernel
theorem d_OG_joined_78 : decode og_c_OG_joined 78 = .ok (.i2l, 1) := by decide +kernel
theorem d_OG_joined_79 : decode og_c_OG_joined 79 = .ok (.goto 9, 3) := by decide +kernel
theorem d_OG_joined_82 : decode og_c_OG_joined 82 = .ok (.lload_n 1, 1) := by decide +kernel
theorem d_OG_joined_83 : decode og_c_OG_joined 83 = .ok (.iload_n 3, 1) := by decide +kernel
theorem d_OG_joined_84 : decode og_c_OG_joined 84 = .ok (.i2l, 1) := by decide +kernel
theorem d_OG_joined_85 : decode og_c_OG_joined 85 = .ok (.invokestatic 383, 3) := by decide +kernel
theorem d_OG_joined_88 : decode og_c_OG_joined 88 = .ok (.lreturn, 1) := by decide +kernel
theorem d_OG_joined_89 : decode og_c_OG_joined 89 = .ok (.iload 4, 2) := by decide +kernel
theorem d_OG_joined_91 : decode og_c_OG_joined 91 = .ok (.ifCond .ne 8, 3) := by decide +kernel
theorem d_OG_joined_94 : decode og_c_OG_joined 94 = .ok (.iload_n 3, 1) := by decide +kernel
theorem d_OG_joined_95 : decode og_c_OG_joined 95 = .ok (.i2l, 1) := by decide +kernel
theorem d_OG_joined_96 : decode og_c_OG_joined 96 = .ok (.goto 9, 3) := by decide +kernel
theorem d_OG_joined_99 : decode og_c_OG_joined 99 = .ok (.lload_n 1, 1) := by decide +kernel
theorem d_OG_joined_100 : decode og_c_OG_joined 100 = .ok (.iload_n 3, 1) := by decide +kernel
theorem d_OG_joined_101 : decode og_c_OG_joined 101 = .ok (.i2l, 1) := by decide +kernel
theorem d_OG_joined_102 : decode og_c_OG_joined 102 = .ok (.invokestatic 386, 3) := by decide +kernel
theorem d_OG_joined_105 : decode og_c_OG_joined 105 = .ok (.lreturn, 1) := by decide +kernel
theorem d_OG_joined_106 : decode og_c_OG_joined 106 = .ok (.lload_n 1, 1) := by decide +kernel
theorem d_OG_joined_107 : decode og_c_OG_joined 107 = .ok (.iload_n 3, 1) := by decide +kernel
theorem d_OG_joined_108 : decode og_c_OG_joined 108 = .ok (.i2l, 1) := by decide +kernel
theorem d_OG_joined_109 : decode og_c_OG_joined 109 = .ok (.ladd, 1) := by decide +kernel
theorem d_OG_joined_110 : decode og_c_OG_joined 110 = .ok (.lreturn, 1) := by decide +kernel
def m_OG_joined : og_Dn := og_den [0, 1, 0, 0] 5 1 (og_sw (og_loc 0) (fun x => og_cs x [25] (og_ret (og_ei (og_and (og_cc og_req (og_loc 1) (og_k (-1))) (og_cc og_rne (og_loc 3) (og_k 0))) (og_i2l (og_loc 4)) (og_loc 1))) (og_cs x [26] (og_ret (og_ei (og_cc og_rne (og_loc 3) (og_k 0)) (og_i2l (og_loc 4)) (og_loc 1))) (og_cs x [29] (og_ret (og_ei (og_cc og_req (og_loc 4) (og_k 0)) (og_i2l (og_loc 3)) (og_max (og_loc 1) (og_i2l (og_loc 3))))) (og_cs x [30] (og_ret (og_ei (og_cc og_req (og_loc 4) (og_k 0)) (og_i2l (og_loc 3)) (og_min (og_loc 1) (og_i2l (og_loc 3))))) (og_ret (og_ladd (og_loc 1) (og_i2l (og_loc 3)))))))))
set_option maxRecDepth 20000 in
theorem ok_OG_joined : og_MOK og_y_OG_joined og_c_OG_joined 5 1 1 [0, 1, 0, 0] m_OG_joined := og_method (b := 0) (lt' := []) (by decide +kernel) (by decide) (by decide) (og_stab (b1 := 0) (d := 106) (cs := [(25, 40), (26, 60), (29, 72), (30, 89)]) (og_iload_n (i := 0) (j := 0) (by rfl) (by rfl) d_OG_joined_0) d_OG_joined_1 (by decide) (by decide) (fun x => og_scs (fun hx => og_sat (by simp at hx; subst hx; rfl) (og_sretl (og_eite (og_cand (og_ccn og_n_eq (og_lne (tgt := 58) (og_lload_n (i := 1) (j := 1) (by rfl) (by rfl) d_OG_joined_40) (og_ldc2 (x := (-1)) (by decide) og_w1091 d_OG_joined_41) d_OG_joined_44 d_OG_joined_45 (by decide))) (og_ccn og_n_ne (og_zeq (tgt := 58) (og_iload_n (i := 3) (j := 2) (by rfl) (by rfl) d_OG_joined_48) d_OG_joined_49 (by decide)))) (og_i2l_ (og_iload (i := 4) (j := 3) (by rfl) d_OG_joined_52) d_OG_joined_54) d_OG_joined_55 (by decide) (og_lload_n (i := 1) (j := 1) (by rfl) (by rfl) d_OG_joined_58)) d_OG_joined_59)) (fun hx => og_scs (fun hx => og_sat (by simp at hx; subst hx; rfl) (og_sretl (og_eite (og_ccn og_n_ne (og_zeq (tgt := 70) (og_iload_n (i := 3) (j := 2) (by rfl) (by rfl) d_OG_joined_60) d_OG_joined_61 (by decide))) (og_i2l_ (og_iload (i := 4) (j := 3) (by rfl) d_OG_joined_64) d_OG_joined_66) d_OG_joined_67 (by decide) (og_lload_n (i := 1) (j := 1) (by rfl) (by rfl) d_OG_joined_70)) d_OG_joined_71)) (fun hx => og_scs (fun hx => og_sat (by simp at hx; subst hx; rfl) (og_sretl (og_eite (og_ccn og_n_eq (og_zne (tgt := 82) (og_iload (i := 4) (j := 3) (by rfl) d_OG_joined_72) d_OG_joined_74 (by decide))) (og_i2l_ (og_iload_n (i := 3) (j := 2) (by rfl) (by rfl) d_OG_joined_77) d_OG_joined_78) d_OG_joined_79 (by decide) (og_lmax (og_lload_n (i := 1) (j := 1) (by rfl) (by rfl) d_OG_joined_82) (og_i2l_ (og_iload_n (i := 3) (j := 2) (by rfl) (by rfl) d_OG_joined_83) d_OG_joined_84) (by decide) (by decide) og_w1095 og_w773 og_w19 og_w774 d_OG_joined_85)) d_OG_joined_88)) (fun hx => og_scs (fun hx => og_sat (by simp at hx; subst hx; rfl) (og_sretl (og_eite (og_ccn og_n_eq (og_zne (tgt := 99) (og_iload (i := 4) (j := 3) (by rfl) d_OG_joined_89) d_OG_joined_91 (by decide))) (og_i2l_ (og_iload_n (i := 3) (j := 2) (by rfl) (by rfl) d_OG_joined_94) d_OG_joined_95) d_OG_joined_96 (by decide) (og_lmin (og_lload_n (i := 1) (j := 1) (by rfl) (by rfl) d_OG_joined_99) (og_i2l_ (og_iload_n (i := 3) (j := 2) (by rfl) (by rfl) d_OG_joined_100) d_OG_joined_101) (by decide) (by decide) og_w1096 og_w770 og_w19 og_w771 d_OG_joined_102)) d_OG_joined_105)) (fun hx => og_sat (og_lkn (by simp_all)) (og_sretl (og_ladd_ (og_lload_n (i := 1) (j := 1) (by rfl) (by rfl) d_OG_joined_106) (og_i2l_ (og_iload_n (i := 3) (j := 2) (by rfl) (by rfl) d_OG_joined_107) d_OG_joined_108) d_OG_joined_109) d_OG_joined_110))))))) (fun h => by cases h)
abbrev og_c_OG_ask : ByteArray := prog_1_method_30_code
abbrev og_y_OG_ask : MethodName := ⟨"OpenGraves", "ask", "()J"⟩
theorem v_OG_ask {own : String} {idx dep : Nat} (h : 88 + 1 ≤ dep) : og_sV own idx og_y_OG_ask og_c_OG_ask 6 1 88 dep 1 0 := ⟨⟨0, og_sl_OG, og_T_OG, 17, rfl, by decide, rfl⟩, og_w1080, og_w1081, og_w1, og_w1082, ⟨by decide +kernel, by decide +kernel, by decide +kernel⟩, h, by decide⟩
theorem d_OG_ask_0 : decode og_c_OG_ask 0 = .ok (.aload_n 0, 1) := by decide +kernel
theorem d_OG_ask_1 : decode og_c_OG_ask 1 = .ok (.getfield 16, 3) := by decide +kernel
theorem d_OG_ask_4 : decode og_c_OG_ask 4 = .ok (.getfield 37, 3) := by decide +kernel
theorem d_OG_ask_7 : decode og_c_OG_ask 7 = .ok (.astore_n 1, 1) := by decide +kernel
theorem d_OG_ask_8 : decode og_c_OG_ask 8 = .ok (.aload_n 0, 1) := by decide +kernel
theorem d_OG_ask_9 : decode og_c_OG_ask 9 = .ok (.getfield 44, 3) := by decide +kernel
theorem d_OG_ask_12 : decode og_c_OG_ask 12 = .ok (.aload_n 1, 1) := by decide +kernel
theorem d_OG_ask_13 : decode og_c_OG_ask 13 = .ok (.invokevirtual 331, 3) := by decide +kernel
theorem d_OG_ask_16 : decode og_c_OG_ask 16 = .ok (.istore_n 2, 1) := by decide +kernel
theorem d_OG_ask_17 : decode og_c_OG_ask 17 = .ok (.aload_n 0, 1) := by decide +kernel
theorem d_OG_ask_18 : decode og_c_OG_ask 18 = .ok (.invokevirtual 123, 3) := by decide +kernel
theorem d_OG_ask_21 : decode og_c_OG_ask 21 = .ok (.aload_n 0, 1) := by decide +kernel
theorem d_OG_ask_22 : decode og_c_OG_ask 22 = .ok (.getfield 22, 3) := by decide +kernel
theorem d_OG_ask_25 : decode og_c_OG_ask 25 = .ok (.iconst 0, 1) := by decide +kernel
theorem d_OG_ask_26 : decode og_c_OG_ask 26 = .ok (.putfield 108, 3) := by decide +kernel
theorem d_OG_ask_29 : decode og_c_OG_ask 29 = .ok (.iload_n 2, 1) := by decide +kernel
theorem d_OG_ask_30 : decode og_c_OG_ask 30 = .ok (.iconst (-1), 1) := by decide +kernel
theorem d_OG_ask_31 : decode og_c_OG_ask 31 = .ok (.if_icmp .ne 7, 3) := by decide +kernel
theorem d_OG_ask_34 : decode og_c_OG_ask 34 = .ok (.ldc2_w 205, 3) := by decide +kernel
theorem d_OG_ask_37 : decode og_c_OG_ask 37 = .ok (.lreturn, 1) := by decide +kernel
theorem d_OG_ask_38 : decode og_c_OG_ask 38 = .ok (.iload_n 2, 1) := by decide +kernel
theorem d_OG_ask_39 : decode og_c_OG_ask 39 = .ok (.bipush 25, 2) := by decide +kernel
theorem d_OG_ask_41 : decode og_c_OG_ask 41 = .ok (.if_icmp .eq 9, 3) := by decide +kernel
theorem d_OG_ask_44 : decode og_c_OG_ask 44 = .ok (.iload_n 2, 1) := by decide +kernel
theorem d_OG_ask_45 : decode og_c_OG_ask 45 = .ok (.bipush 26, 2) := by decide +kernel
theorem d_OG_ask_47 : decode og_c_OG_ask 47 = .ok (.if_icmp .ne 9, 3) := by decide +kernel
theorem d_OG_ask_50 : decode og_c_OG_ask 50 = .ok (.ldc2_w 335, 3) := by decide +kernel
theorem d_OG_ask_53 : decode og_c_OG_ask 53 = .ok (.goto 4, 3) := by decide +kernel
theorem d_OG_ask_56 : decode og_c_OG_ask 56 = .ok (.lconst 0, 1) := by decide +kernel
theorem d_OG_ask_57 : decode og_c_OG_ask 57 = .ok (.lstore_n 3, 1) := by decide +kernel
theorem d_OG_ask_58 : decode og_c_OG_ask 58 = .ok (.iconst 0, 1) := by decide +kernel
theorem d_OG_ask_59 : decode og_c_OG_ask 59 = .ok (.istore 5, 2) := by decide +kernel
theorem d_OG_ask_61 : decode og_c_OG_ask 61 = .ok (.iload 5, 2) := by decide +kernel
theorem d_OG_ask_63 : decode og_c_OG_ask 63 = .ok (.aload_n 0, 1) := by decide +kernel
theorem d_OG_ask_64 : decode og_c_OG_ask 64 = .ok (.getfield 90, 3) := by decide +kernel
theorem d_OG_ask_67 : decode og_c_OG_ask 67 = .ok (.getfield 145, 3) := by decide +kernel
theorem d_OG_ask_70 : decode og_c_OG_ask 70 = .ok (.if_icmp .ge 34, 3) := by decide +kernel
theorem d_OG_ask_73 : decode og_c_OG_ask 73 = .ok (.iload_n 2, 1) := by decide +kernel
theorem d_OG_ask_74 : decode og_c_OG_ask 74 = .ok (.lload_n 3, 1) := by decide +kernel
theorem d_OG_ask_75 : decode og_c_OG_ask 75 = .ok (.aload_n 0, 1) := by decide +kernel
theorem d_OG_ask_76 : decode og_c_OG_ask 76 = .ok (.getfield 51, 3) := by decide +kernel
theorem d_OG_ask_79 : decode og_c_OG_ask 79 = .ok (.aload_n 1, 1) := by decide +kernel
theorem d_OG_ask_80 : decode og_c_OG_ask 80 = .ok (.bipush 13, 2) := by decide +kernel
theorem d_OG_ask_82 : decode og_c_OG_ask 82 = .ok (.aload_n 0, 1) := by decide +kernel
theorem d_OG_ask_83 : decode og_c_OG_ask 83 = .ok (.getfield 90, 3) := by decide +kernel
theorem d_OG_ask_86 : decode og_c_OG_ask 86 = .ok (.iload 5, 2) := by decide +kernel
theorem d_OG_ask_88 : decode og_c_OG_ask 88 = .ok (.iconst 0, 1) := by decide +kernel
theorem d_OG_ask_89 : decode og_c_OG_ask 89 = .ok (.invokevirtual 210, 3) := by decide +kernel
theorem d_OG_ask_92 : decode og_c_OG_ask 92 = .ok (.iload 5, 2) := by decide +kernel
theorem d_OG_ask_94 : decode og_c_OG_ask 94 = .ok (.invokestatic 339, 3) := by decide +kernel
theorem d_OG_ask_97 : decode og_c_OG_ask 97 = .ok (.lstore_n 3, 1) := by decide +kernel
theorem d_OG_ask_98 : decode og_c_OG_ask 98 = .ok (.iinc 5 1, 3) := by decide +kernel
theorem d_OG_ask_101 : decode og_c_OG_ask 101 = .ok (.goto (-40), 3) := by decide +kernel
theorem d_OG_ask_104 : decode og_c_OG_ask 104 = .ok (.lload_n 3, 1) := by decide +kernel
theorem d_OG_ask_105 : decode og_c_OG_ask 105 = .ok (.lreturn, 1) := by decide +kernel
def m_OG_ask : og_Dn := og_den [5] 6 1 (og_seq (og_set 1 (og_fix (fun i => i + 2) (og_get 16 (og_loc 0)))) (og_seq (og_set 2 (og_call m_Grammar_readQuestion [og_fix (fun _ => 5) (og_loc 0), og_loc 1])) (og_seq (og_exp (og_call m_OG_keepFault [og_loc 0])) (og_seq (og_putf 1 (og_fix (fun _ => 1) (og_loc 0)) (og_k 0)) (og_seq (og_if (og_cc og_req (og_loc 2) (og_k (-1))) (og_ret (og_k (-1000000000000000))) (og_skip)) (og_seq (og_set 3 (og_ei (og_or (og_cc og_req (og_loc 2) (og_k 25)) (og_cc og_req (og_loc 2) (og_k 26))) (og_k (-1)) (og_k 0))) (og_cut (og_seq (og_set 5 (og_k 0)) (og_while (og_cc og_rlt (og_loc 5) (og_get 1 (og_fix (fun _ => 100) (og_loc 0)))) (og_set 3 (og_call m_OG_joined [og_loc 2, og_loc 3, og_call m_Reckoner_value [og_fix (fun _ => 6) (og_loc 0), og_loc 1, og_k 13, og_fix (fun _ => 100) (og_loc 0), og_loc 5, og_k 0], og_loc 5])) (og_inc 5 1))) (og_ret (og_loc 3)))))))))
set_option maxRecDepth 20000 in
theorem ok_OG_ask : og_MOK og_y_OG_ask og_c_OG_ask 6 1 88 [5] m_OG_ask := og_method (b := 0) (lt' := []) (by decide +kernel) (by decide) (by decide) (og_sseq (og_astore_n (i := 1) (lt' := [(0, 5), (1, 15)]) (og_f_Parish_rules_N (og_f_OG_draft (og_aload_n (i := 0) (t := 3) (j := 0) (by rfl) (by rfl) d_OG_ask_0) og_w405 d_OG_ask_1) og_w150 d_OG_ask_4) (by rfl) (by decide) (by decide) d_OG_ask_7) (og_sseq (og_istore_n (i := 2) (lt' := [(0, 5), (1, 15), (2, 0)]) (og_callVi (og_acons (og_f_OG_grammar (og_aload_n (i := 0) (t := 3) (j := 0) (by rfl) (by rfl) d_OG_ask_8) og_w391 d_OG_ask_9) (og_acons (og_aload_n (i := 1) (t := 13) (j := 1) (by rfl) (by rfl) d_OG_ask_12) (og_anil))) (by decide) ok_Grammar_readQuestion (v_Grammar_readQuestion (by decide)) og_w1083 d_OG_ask_13) (by rfl) (by decide) (by decide) d_OG_ask_16) (og_sseq (og_callVv (og_acons (og_aload_n (i := 0) (t := 3) (j := 0) (by rfl) (by rfl) d_OG_ask_17) (og_anil)) ok_OG_keepFault (v_OG_keepFault (by decide)) og_w665 d_OG_ask_18) (og_sseq (og_p_Tape_size_N (og_f_OG_tape (og_aload_n (i := 0) (t := 3) (j := 0) (by rfl) (by rfl) d_OG_ask_21) og_w389 d_OG_ask_22) (og_iconst (by decide) d_OG_ask_25) og_w167 d_OG_ask_26) (og_sseq (og_sif (T := 34) (F := 38) (og_ccn og_n_eq (og_ine (tgt := 38) (og_iload_n (i := 2) (j := 2) (by rfl) (by rfl) d_OG_ask_29) (og_iconst (by decide) d_OG_ask_30) d_OG_ask_31 (by decide))) (og_sretl (og_ldc2 (x := (-1000000000000000)) (by decide) og_w737 d_OG_ask_34) d_OG_ask_37) (og_sskip)) (og_sseq (og_lstore_n (i := 3) (lt' := [(0, 5), (1, 15), (2, 0), (3, 1)]) (og_eite (og_cor (og_ieq (tgt := 50) (og_iload_n (i := 2) (j := 2) (by rfl) (by rfl) d_OG_ask_38) (og_bipush (by decide) d_OG_ask_39) d_OG_ask_41 (by decide)) (og_ccn og_n_eq (og_ine (tgt := 56) (og_iload_n (i := 2) (j := 2) (by rfl) (by rfl) d_OG_ask_44) (og_bipush (by decide) d_OG_ask_45) d_OG_ask_47 (by decide)))) (og_ldc2 (x := (-1)) (by decide) og_w1091 d_OG_ask_50) d_OG_ask_53 (by decide) (og_lconst (x := 0) d_OG_ask_56)) (by rfl) (by decide) (by decide) d_OG_ask_57) (og_scut (og_sdrop (lt' := [(0, 5), (1, 15), (2, 0), (3, 1), (5, 0)]) (lt2 := [(0, 5), (1, 15), (2, 0), (3, 1)]) (og_sseq (og_istore (i := 5) (lt' := [(0, 5), (1, 15), (2, 0), (3, 1), (5, 0)]) (og_iconst (by decide) d_OG_ask_58) (by decide) (by decide) d_OG_ask_59) (og_swhile (T := 73) (F := 104) (cp0 := 98) (og_ccn og_n_lt (og_ige (tgt := 104) (og_iload (i := 5) (j := 4) (by rfl) d_OG_ask_61) (og_f_Yard_people_N (og_f_OG_now (og_aload_n (i := 0) (t := 3) (j := 0) (by rfl) (by rfl) d_OG_ask_63) og_w397 d_OG_ask_64) og_w52 d_OG_ask_67) d_OG_ask_70 (by decide))) (og_lstore_n (i := 3) (lt' := [(0, 5), (1, 15), (2, 0), (3, 1), (5, 0)]) (og_callSl (og_acons (og_iload_n (i := 2) (j := 2) (by rfl) (by rfl) d_OG_ask_73) (og_acons (og_lload_n (i := 3) (j := 3) (by rfl) (by rfl) d_OG_ask_74) (og_acons (og_callVi (og_acons (og_f_OG_reckoner (og_aload_n (i := 0) (t := 3) (j := 0) (by rfl) (by rfl) d_OG_ask_75) og_w392 d_OG_ask_76) (og_acons (og_aload_n (i := 1) (t := 13) (j := 1) (by rfl) (by rfl) d_OG_ask_79) (og_acons (og_bipush (by decide) d_OG_ask_80) (og_acons (og_f_OG_now (og_aload_n (i := 0) (t := 3) (j := 0) (by rfl) (by rfl) d_OG_ask_82) og_w397 d_OG_ask_83) (og_acons (og_iload (i := 5) (j := 4) (by rfl) d_OG_ask_86) (og_acons (og_iconst (by decide) d_OG_ask_88) (og_anil))))))) (by decide) ok_Reckoner_value (v_Reckoner_value (by decide)) og_w742 d_OG_ask_89) (og_acons (og_iload (i := 5) (j := 4) (by rfl) d_OG_ask_92) (og_anil))))) (by decide) ok_OG_joined (v_OG_joined (by decide)) og_w1092 d_OG_ask_94) (by rfl) (by decide) (by decide) d_OG_ask_97) (og_gS (b' := 61) (og_iinc (j := 4) (lt' := [(0, 5), (1, 15), (2, 0), (3, 1), (5, 0)]) (by rfl) (by decide) (by decide) d_OG_ask_98) d_OG_ask_101 (by decide)))) (by decide)) (og_sretl (og_lload_n (i := 3) (j := 3) (by rfl) (by rfl) d_OG_ask_104) d_OG_ask_105)))))))) (fun h => by cases h)
abbrev og_c_OG_write : ByteArray := prog_1_method_45_code
abbrev og_y_OG_write : MethodName := ⟨"OpenGraves", "write", "(I)V"⟩
theorem v_OG_write {own : String} {idx dep : Nat} (h : 1 + 1 ≤ dep) : og_sV own idx og_y_OG_write og_c_OG_write 2 2 1 dep 1 1 := ⟨⟨0, og_sl_OG, og_T_OG, 17, rfl, by decide, rfl⟩, og_w1103, (og_memP (⟨"OpenGraves", "write", "(I)V"⟩, 17) (List.mem_of_getElem? (i := 47) (by decide +kernel))), og_w1, og_w1104, ⟨by decide +kernel, by decide +kernel, by decide +kernel⟩, h, by decide⟩
theorem d_OG_write_0 : decode og_c_OG_write 0 = .ok (.aload_n 0, 1) := by decide +kernel
theorem d_OG_write_1 : decode og_c_OG_write 1 = .ok (.getfield 343, 3) := by decide +kernel
theorem d_OG_write_4 : decode og_c_OG_write 4 = .ok (.aload_n 0, 1) := by decide +kernel
theorem d_OG_write_5 : decode og_c_OG_write 5 = .ok (.getfield 98, 3) := by decide +kernel
theorem d_OG_write_8 : decode og_c_OG_write 8 = .ok (.arraylength, 1) := by decide +kernel
theorem d_OG_write_9 : decode og_c_OG_write 9 = .ok (.if_icmp .ge 23, 3) := by decide +kernel
theorem d_OG_write_12 : decode og_c_OG_write 12 = .ok (.aload_n 0, 1) := by decide +kernel
theorem d_OG_write_13 : decode og_c_OG_write 13 = .ok (.getfield 98, 3) := by decide +kernel
theorem d_OG_write_16 : decode og_c_OG_write 16 = .ok (.aload_n 0, 1) := by decide +kernel
theorem d_OG_write_17 : decode og_c_OG_write 17 = .ok (.getfield 343, 3) := by decide +kernel
theorem d_OG_write_20 : decode og_c_OG_write 20 = .ok (.iload_n 1, 1) := by decide +kernel
theorem d_OG_write_21 : decode og_c_OG_write 21 = .ok (.iastore, 1) := by decide +kernel
theorem d_OG_write_22 : decode og_c_OG_write 22 = .ok (.aload_n 0, 1) := by decide +kernel
theorem d_OG_write_23 : decode og_c_OG_write 23 = .ok (.dup, 1) := by decide +kernel
theorem d_OG_write_24 : decode og_c_OG_write 24 = .ok (.getfield 343, 3) := by decide +kernel
theorem d_OG_write_27 : decode og_c_OG_write 27 = .ok (.iconst 1, 1) := by decide +kernel
theorem d_OG_write_28 : decode og_c_OG_write 28 = .ok (.iadd, 1) := by decide +kernel
theorem d_OG_write_29 : decode og_c_OG_write 29 = .ok (.putfield 343, 3) := by decide +kernel
theorem d_OG_write_32 : decode og_c_OG_write 32 = .ok (.return_, 1) := by decide +kernel
def m_OG_write : og_Dn := og_den [5, 0] 2 2 (og_if (og_cc og_rlt (og_get 11 (og_loc 0)) (og_len 45 (og_fix (fun _ => 23) (og_loc 0)))) (og_seq (og_ast 45 (og_fix (fun _ => 23) (og_loc 0)) (og_get 11 (og_loc 0)) (og_loc 1)) (og_pop32 og_padd 11 (og_loc 0) (og_k 1))) (og_skip))
set_option maxRecDepth 20000 in
theorem ok_OG_write : og_MOK og_y_OG_write og_c_OG_write 2 2 1 [5, 0] m_OG_write := og_method (b := 32) (lt' := [(0, 5), (1, 0)]) (by decide +kernel) (by decide) (by decide) (og_sif (T := 12) (F := 32) (og_ccn og_n_lt (og_ige (tgt := 32) (og_f_OG_pictureSize (og_aload_n (i := 0) (t := 3) (j := 0) (by rfl) (by rfl) d_OG_write_0) og_w400 d_OG_write_1) (og_alen (N := 45) (et := 0) (og_f_OG_picture (og_aload_n (i := 0) (t := 3) (j := 0) (by rfl) (by rfl) d_OG_write_4) og_w399 d_OG_write_5) (by rfl) (by decide) d_OG_write_8) d_OG_write_9 (by decide))) (og_sseq (og_iastore (N := 45) (og_f_OG_picture (og_aload_n (i := 0) (t := 3) (j := 0) (by rfl) (by rfl) d_OG_write_12) og_w399 d_OG_write_13) (by rfl) (og_f_OG_pictureSize (og_aload_n (i := 0) (t := 3) (j := 0) (by rfl) (by rfl) d_OG_write_16) og_w400 d_OG_write_17) (og_iload_n (i := 1) (j := 1) (by rfl) (by rfl) d_OG_write_20) d_OG_write_21) (og_qadd_OG_pictureSize (og_aload_n (i := 0) (t := 3) (j := 0) (by rfl) (by rfl) d_OG_write_22) d_OG_write_23 d_OG_write_24 (og_iconst (by decide) d_OG_write_27) d_OG_write_28 og_w400 d_OG_write_29)) (og_sskip)) (fun _ => d_OG_write_32)
abbrev og_c_OG_mixed : ByteArray := prog_1_method_46_code
abbrev og_y_OG_mixed : MethodName := ⟨"OpenGraves", "mixed", "([II)I"⟩
theorem v_OG_mixed {dep : Nat} (h : 1 + 1 ≤ dep) : og_sS og_y_OG_mixed og_c_OG_mixed 4 0 1 dep 2 := ⟨og_w1106, og_w1, og_w1107, ⟨by decide +kernel, by decide +kernel, by decide +kernel⟩, h, by decide⟩
theorem d_OG_mixed_0 : decode og_c_OG_mixed 0 = .ok (.sipush 241, 3) := by decide +kernel
theorem d_OG_mixed_3 : decode og_c_OG_mixed 3 = .ok (.istore_n 2, 1) := by decide +kernel
theorem d_OG_mixed_4 : decode og_c_OG_mixed 4 = .ok (.iconst 0, 1) := by decide +kernel
theorem d_OG_mixed_5 : decode og_c_OG_mixed 5 = .ok (.istore_n 3, 1) := by decide +kernel
theorem d_OG_mixed_6 : decode og_c_OG_mixed 6 = .ok (.iload_n 3, 1) := by decide +kernel
theorem d_OG_mixed_7 : decode og_c_OG_mixed 7 = .ok (.iload_n 1, 1) := by decide +kernel
theorem d_OG_mixed_8 : decode og_c_OG_mixed 8 = .ok (.if_icmp .ge 27, 3) := by decide +kernel
theorem d_OG_mixed_11 : decode og_c_OG_mixed 11 = .ok (.iload_n 3, 1) := by decide +kernel
theorem d_OG_mixed_12 : decode og_c_OG_mixed 12 = .ok (.aload_n 0, 1) := by decide +kernel
theorem d_OG_mixed_13 : decode og_c_OG_mixed 13 = .ok (.arraylength, 1) := by decide +kernel
theorem d_OG_mixed_14 : decode og_c_OG_mixed 14 = .ok (.if_icmp .ge 21, 3) := by decide +kernel
theorem d_OG_mixed_17 : decode og_c_OG_mixed 17 = .ok (.iconst 3, 1) := by decide +kernel
theorem d_OG_mixed_18 : decode og_c_OG_mixed 18 = .ok (.iload_n 2, 1) := by decide +kernel
theorem d_OG_mixed_19 : decode og_c_OG_mixed 19 = .ok (.imul, 1) := by decide +kernel
theorem d_OG_mixed_20 : decode og_c_OG_mixed 20 = .ok (.aload_n 0, 1) := by decide +kernel
theorem d_OG_mixed_21 : decode og_c_OG_mixed 21 = .ok (.iload_n 3, 1) := by decide +kernel
theorem d_OG_mixed_22 : decode og_c_OG_mixed 22 = .ok (.iaload, 1) := by decide +kernel
theorem d_OG_mixed_23 : decode og_c_OG_mixed 23 = .ok (.iadd, 1) := by decide +kernel
theorem d_OG_mixed_24 : decode og_c_OG_mixed 24 = .ok (.sipush 251, 3) := by decide +kernel
theorem d_OG_mixed_27 : decode og_c_OG_mixed 27 = .ok (.irem, 1) := by decide +kernel
theorem d_OG_mixed_28 : decode og_c_OG_mixed 28 = .ok (.istore_n 2, 1) := by decide +kernel
theorem d_OG_mixed_29 : decode og_c_OG_mixed 29 = .ok (.iinc 3 1, 3) := by decide +kernel
theorem d_OG_mixed_32 : decode og_c_OG_mixed 32 = .ok (.goto (-26), 3) := by decide +kernel
theorem d_OG_mixed_35 : decode og_c_OG_mixed 35 = .ok (.iload_n 2, 1) := by decide +kernel
theorem d_OG_mixed_36 : decode og_c_OG_mixed 36 = .ok (.ireturn, 1) := by decide +kernel
def m_OG_mixed : og_Dn := og_den [2, 0] 4 0 (og_seq (og_set 2 (og_k 241)) (og_cut (og_seq (og_set 3 (og_k 0)) (og_while (og_and (og_cc og_rlt (og_loc 3) (og_loc 1)) (og_cc og_rlt (og_loc 3) (og_gln (og_loc 0)))) (og_set 2 (og_rem (og_add (og_mul (og_k 3) (og_loc 2)) (og_gld (og_loc 0) (og_loc 3))) (og_k 251))) (og_inc 3 1))) (og_ret (og_loc 2))))
set_option maxRecDepth 20000 in
theorem ok_OG_mixed : og_MOK og_y_OG_mixed og_c_OG_mixed 4 0 1 [2, 0] m_OG_mixed := og_method (b := 0) (lt' := []) (by decide +kernel) (by decide) (by decide) (og_sseq (og_istore_n (i := 2) (lt' := [(0, 2), (1, 0), (2, 0)]) (og_sipush (by decide) d_OG_mixed_0) (by rfl) (by decide) (by decide) d_OG_mixed_3) (og_scut (og_sdrop (lt' := [(0, 2), (1, 0), (2, 0), (3, 0)]) (lt2 := [(0, 2), (1, 0), (2, 0)]) (og_sseq (og_istore_n (i := 3) (lt' := [(0, 2), (1, 0), (2, 0), (3, 0)]) (og_iconst (by decide) d_OG_mixed_4) (by rfl) (by decide) (by decide) d_OG_mixed_5) (og_swhile (T := 17) (F := 35) (cp0 := 29) (og_cand (og_ccn og_n_lt (og_ige (tgt := 35) (og_iload_n (i := 3) (j := 3) (by rfl) (by rfl) d_OG_mixed_6) (og_iload_n (i := 1) (j := 1) (by rfl) (by rfl) d_OG_mixed_7) d_OG_mixed_8 (by decide))) (og_ccn og_n_lt (og_ige (tgt := 35) (og_iload_n (i := 3) (j := 3) (by rfl) (by rfl) d_OG_mixed_11) (og_galen (og_aload_n (i := 0) (t := 0) (j := 0) (by rfl) (by rfl) d_OG_mixed_12) d_OG_mixed_13) d_OG_mixed_14 (by decide)))) (og_istore_n (i := 2) (lt' := [(0, 2), (1, 0), (2, 0), (3, 0)]) (og_irem (og_iadd (og_imul (og_iconst (by decide) d_OG_mixed_17) (og_iload_n (i := 2) (j := 2) (by rfl) (by rfl) d_OG_mixed_18) d_OG_mixed_19) (og_giald (og_aload_n (i := 0) (t := 0) (j := 0) (by rfl) (by rfl) d_OG_mixed_20) (og_iload_n (i := 3) (j := 3) (by rfl) (by rfl) d_OG_mixed_21) d_OG_mixed_22) d_OG_mixed_23) (og_sipush (by decide) d_OG_mixed_24) d_OG_mixed_27) (by rfl) (by decide) (by decide) d_OG_mixed_28) (og_gS (b' := 6) (og_iinc (j := 3) (lt' := [(0, 2), (1, 0), (2, 0), (3, 0)]) (by rfl) (by decide) (by decide) d_OG_mixed_29) d_OG_mixed_32 (by decide)))) (by decide)) (og_sreti (og_iload_n (i := 2) (j := 2) (by rfl) (by rfl) d_OG_mixed_35) d_OG_mixed_36))) (fun h => by cases h)
abbrev og_c_OG_image : ByteArray := prog_1_method_31_code
abbrev og_y_OG_image : MethodName := ⟨"OpenGraves", "image", "()I"⟩
theorem v_OG_image {own : String} {idx dep : Nat} (h : 2 + 1 ≤ dep) : og_sV own idx og_y_OG_image og_c_OG_image 2 0 2 dep 1 0 := ⟨⟨0, og_sl_OG, og_T_OG, 17, rfl, by decide, rfl⟩, og_w1098, og_w1099, og_w1, og_w1100, ⟨by decide +kernel, by decide +kernel, by decide +kernel⟩, h, by decide⟩
theorem d_OG_image_0 : decode og_c_OG_image 0 = .ok (.aload_n 0, 1) := by decide +kernel
theorem d_OG_image_1 : decode og_c_OG_image 1 = .ok (.iconst 0, 1) := by decide +kernel
theorem d_OG_image_2 : decode og_c_OG_image 2 = .ok (.putfield 343, 3) := by decide +kernel
theorem d_OG_image_5 : decode og_c_OG_image 5 = .ok (.aload_n 0, 1) := by decide +kernel
theorem d_OG_image_6 : decode og_c_OG_image 6 = .ok (.aload_n 0, 1) := by decide +kernel
theorem d_OG_image_7 : decode og_c_OG_image 7 = .ok (.getfield 90, 3) := by decide +kernel
theorem d_OG_image_10 : decode og_c_OG_image 10 = .ok (.getfield 148, 3) := by decide +kernel
theorem d_OG_image_13 : decode og_c_OG_image 13 = .ok (.sipush 256, 3) := by decide +kernel
theorem d_OG_image_16 : decode og_c_OG_image 16 = .ok (.idiv, 1) := by decide +kernel
theorem d_OG_image_17 : decode og_c_OG_image 17 = .ok (.invokevirtual 346, 3) := by decide +kernel
theorem d_OG_image_20 : decode og_c_OG_image 20 = .ok (.aload_n 0, 1) := by decide +kernel
theorem d_OG_image_21 : decode og_c_OG_image 21 = .ok (.aload_n 0, 1) := by decide +kernel
theorem d_OG_image_22 : decode og_c_OG_image 22 = .ok (.getfield 90, 3) := by decide +kernel
theorem d_OG_image_25 : decode og_c_OG_image 25 = .ok (.getfield 148, 3) := by decide +kernel
theorem d_OG_image_28 : decode og_c_OG_image 28 = .ok (.sipush 256, 3) := by decide +kernel
theorem d_OG_image_31 : decode og_c_OG_image 31 = .ok (.irem, 1) := by decide +kernel
theorem d_OG_image_32 : decode og_c_OG_image 32 = .ok (.invokevirtual 346, 3) := by decide +kernel
theorem d_OG_image_35 : decode og_c_OG_image 35 = .ok (.iconst 0, 1) := by decide +kernel
theorem d_OG_image_36 : decode og_c_OG_image 36 = .ok (.istore_n 1, 1) := by decide +kernel
theorem d_OG_image_37 : decode og_c_OG_image 37 = .ok (.iload_n 1, 1) := by decide +kernel
theorem d_OG_image_38 : decode og_c_OG_image 38 = .ok (.aload_n 0, 1) := by decide +kernel
theorem d_OG_image_39 : decode og_c_OG_image 39 = .ok (.getfield 90, 3) := by decide +kernel
theorem d_OG_image_42 : decode og_c_OG_image 42 = .ok (.getfield 142, 3) := by decide +kernel
theorem d_OG_image_45 : decode og_c_OG_image 45 = .ok (.if_icmp .ge 65, 3) := by decide +kernel
theorem d_OG_image_48 : decode og_c_OG_image 48 = .ok (.aload_n 0, 1) := by decide +kernel
theorem d_OG_image_49 : decode og_c_OG_image 49 = .ok (.aload_n 0, 1) := by decide +kernel
theorem d_OG_image_50 : decode og_c_OG_image 50 = .ok (.getfield 90, 3) := by decide +kernel
theorem d_OG_image_53 : decode og_c_OG_image 53 = .ok (.getfield 181, 3) := by decide +kernel
theorem d_OG_image_56 : decode og_c_OG_image 56 = .ok (.iload_n 1, 1) := by decide +kernel
theorem d_OG_image_57 : decode og_c_OG_image 57 = .ok (.iaload, 1) := by decide +kernel
theorem d_OG_image_58 : decode og_c_OG_image 58 = .ok (.invokevirtual 346, 3) := by decide +kernel
theorem d_OG_image_61 : decode og_c_OG_image 61 = .ok (.aload_n 0, 1) := by decide +kernel
theorem d_OG_image_62 : decode og_c_OG_image 62 = .ok (.aload_n 0, 1) := by decide +kernel
theorem d_OG_image_63 : decode og_c_OG_image 63 = .ok (.getfield 90, 3) := by decide +kernel
theorem d_OG_image_66 : decode og_c_OG_image 66 = .ok (.getfield 184, 3) := by decide +kernel
theorem d_OG_image_69 : decode og_c_OG_image 69 = .ok (.iload_n 1, 1) := by decide +kernel
theorem d_OG_image_70 : decode og_c_OG_image 70 = .ok (.iaload, 1) := by decide +kernel
theorem d_OG_image_71 : decode og_c_OG_image 71 = .ok (.invokevirtual 346, 3) := by decide +kernel
theorem d_OG_image_74 : decode og_c_OG_image 74 = .ok (.aload_n 0, 1) := by decide +kernel
theorem d_OG_image_75 : decode og_c_OG_image 75 = .ok (.aload_n 0, 1) := by decide +kernel
theorem d_OG_image_76 : decode og_c_OG_image 76 = .ok (.getfield 90, 3) := by decide +kernel
theorem d_OG_image_79 : decode og_c_OG_image 79 = .ok (.iload_n 1, 1) := by decide +kernel
theorem d_OG_image_80 : decode og_c_OG_image 80 = .ok (.invokevirtual 307, 3) := by decide +kernel
theorem d_OG_image_83 : decode og_c_OG_image 83 = .ok (.ifCond .eq 15, 3) := by decide +kernel
theorem d_OG_image_86 : decode og_c_OG_image 86 = .ok (.aload_n 0, 1) := by decide +kernel
theorem d_OG_image_87 : decode og_c_OG_image 87 = .ok (.getfield 90, 3) := by decide +kernel
theorem d_OG_image_90 : decode og_c_OG_image 90 = .ok (.getfield 187, 3) := by decide +kernel
theorem d_OG_image_93 : decode og_c_OG_image 93 = .ok (.iload_n 1, 1) := by decide +kernel
theorem d_OG_image_94 : decode og_c_OG_image 94 = .ok (.iaload, 1) := by decide +kernel
theorem d_OG_image_95 : decode og_c_OG_image 95 = .ok (.goto 6, 3) := by decide +kernel
theorem d_OG_image_98 : decode og_c_OG_image 98 = .ok (.sipush 255, 3) := by decide +kernel
theorem d_OG_image_101 : decode og_c_OG_image 101 = .ok (.invokevirtual 346, 3) := by decide +kernel
theorem d_OG_image_104 : decode og_c_OG_image 104 = .ok (.iinc 1 1, 3) := by decide +kernel
theorem d_OG_image_107 : decode og_c_OG_image 107 = .ok (.goto (-70), 3) := by decide +kernel
theorem d_OG_image_110 : decode og_c_OG_image 110 = .ok (.iconst 0, 1) := by decide +kernel
theorem d_OG_image_111 : decode og_c_OG_image 111 = .ok (.istore_n 1, 1) := by decide +kernel
theorem d_OG_image_112 : decode og_c_OG_image 112 = .ok (.iload_n 1, 1) := by decide +kernel
theorem d_OG_image_113 : decode og_c_OG_image 113 = .ok (.aload_n 0, 1) := by decide +kernel
theorem d_OG_image_114 : decode og_c_OG_image 114 = .ok (.getfield 90, 3) := by decide +kernel
theorem d_OG_image_117 : decode og_c_OG_image 117 = .ok (.getfield 145, 3) := by decide +kernel
theorem d_OG_image_120 : decode og_c_OG_image 120 = .ok (.if_icmp .ge 48, 3) := by decide +kernel
theorem d_OG_image_123 : decode og_c_OG_image 123 = .ok (.aload_n 0, 1) := by decide +kernel
theorem d_OG_image_124 : decode og_c_OG_image 124 = .ok (.aload_n 0, 1) := by decide +kernel
theorem d_OG_image_125 : decode og_c_OG_image 125 = .ok (.getfield 90, 3) := by decide +kernel
theorem d_OG_image_128 : decode og_c_OG_image 128 = .ok (.getfield 202, 3) := by decide +kernel
theorem d_OG_image_131 : decode og_c_OG_image 131 = .ok (.iload_n 1, 1) := by decide +kernel
theorem d_OG_image_132 : decode og_c_OG_image 132 = .ok (.iaload, 1) := by decide +kernel
theorem d_OG_image_133 : decode og_c_OG_image 133 = .ok (.invokevirtual 346, 3) := by decide +kernel
theorem d_OG_image_136 : decode og_c_OG_image 136 = .ok (.aload_n 0, 1) := by decide +kernel
theorem d_OG_image_137 : decode og_c_OG_image 137 = .ok (.aload_n 0, 1) := by decide +kernel
theorem d_OG_image_138 : decode og_c_OG_image 138 = .ok (.getfield 90, 3) := by decide +kernel
theorem d_OG_image_141 : decode og_c_OG_image 141 = .ok (.getfield 196, 3) := by decide +kernel
theorem d_OG_image_144 : decode og_c_OG_image 144 = .ok (.iload_n 1, 1) := by decide +kernel
theorem d_OG_image_145 : decode og_c_OG_image 145 = .ok (.iaload, 1) := by decide +kernel
theorem d_OG_image_146 : decode og_c_OG_image 146 = .ok (.invokevirtual 346, 3) := by decide +kernel
theorem d_OG_image_149 : decode og_c_OG_image 149 = .ok (.aload_n 0, 1) := by decide +kernel
theorem d_OG_image_150 : decode og_c_OG_image 150 = .ok (.aload_n 0, 1) := by decide +kernel
theorem d_OG_image_151 : decode og_c_OG_image 151 = .ok (.getfield 90, 3) := by decide +kernel
theorem d_OG_image_154 : decode og_c_OG_image 154 = .ok (.getfield 199, 3) := by decide +kernel
theorem d_OG_image_157 : decode og_c_OG_image 157 = .ok (.iload_n 1, 1) := by decide +kernel
theorem d_OG_image_158 : decode og_c_OG_image 158 = .ok (.iaload, 1) := by decide +kernel
theorem d_OG_image_159 : decode og_c_OG_image 159 = .ok (.invokevirtual 346, 3) := by decide +kernel
theorem d_OG_image_162 : decode og_c_OG_image 162 = .ok (.iinc 1 1, 3) := by decide +kernel
theorem d_OG_image_165 : decode og_c_OG_image 165 = .ok (.goto (-53), 3) := by decide +kernel
theorem d_OG_image_168 : decode og_c_OG_image 168 = .ok (.aload_n 0, 1) := by decide +kernel
theorem d_OG_image_169 : decode og_c_OG_image 169 = .ok (.aload_n 0, 1) := by decide +kernel
theorem d_OG_image_170 : decode og_c_OG_image 170 = .ok (.getfield 98, 3) := by decide +kernel
theorem d_OG_image_173 : decode og_c_OG_image 173 = .ok (.aload_n 0, 1) := by decide +kernel
theorem d_OG_image_174 : decode og_c_OG_image 174 = .ok (.getfield 343, 3) := by decide +kernel
theorem d_OG_image_177 : decode og_c_OG_image 177 = .ok (.invokestatic 349, 3) := by decide +kernel
theorem d_OG_image_180 : decode og_c_OG_image 180 = .ok (.invokevirtual 346, 3) := by decide +kernel
theorem d_OG_image_183 : decode og_c_OG_image 183 = .ok (.aload_n 0, 1) := by decide +kernel
theorem d_OG_image_184 : decode og_c_OG_image 184 = .ok (.getfield 343, 3) := by decide +kernel
theorem d_OG_image_187 : decode og_c_OG_image 187 = .ok (.ireturn, 1) := by decide +kernel
def m_OG_image : og_Dn := og_den [5] 2 0 (og_seq (og_putf 11 (og_loc 0) (og_k 0)) (og_seq (og_exp (og_call m_OG_write [og_loc 0, og_div (og_get 2 (og_fix (fun _ => 100) (og_loc 0))) (og_k 256)])) (og_seq (og_exp (og_call m_OG_write [og_loc 0, og_rem (og_get 2 (og_fix (fun _ => 100) (og_loc 0))) (og_k 256)])) (og_cut (og_seq (og_set 1 (og_k 0)) (og_while (og_cc og_rlt (og_loc 1) (og_get 0 (og_fix (fun _ => 100) (og_loc 0)))) (og_seq (og_exp (og_call m_OG_write [og_loc 0, og_ald 6 (og_fix (fun i => i + 2) (og_fix (fun _ => 100) (og_loc 0))) (og_loc 1)])) (og_seq (og_exp (og_call m_OG_write [og_loc 0, og_ald 6 (og_fix (fun i => i + 3) (og_fix (fun _ => 100) (og_loc 0))) (og_loc 1)])) (og_exp (og_call m_OG_write [og_loc 0, og_ei (og_cb (og_call m_Yard_isFilled [og_fix (fun _ => 100) (og_loc 0), og_loc 1])) (og_ald 6 (og_fix (fun i => i + 4) (og_fix (fun _ => 100) (og_loc 0))) (og_loc 1)) (og_k 255)])))) (og_inc 1 1))) (og_cut (og_seq (og_set 1 (og_k 0)) (og_while (og_cc og_rlt (og_loc 1) (og_get 1 (og_fix (fun _ => 100) (og_loc 0)))) (og_seq (og_exp (og_call m_OG_write [og_loc 0, og_ald 8 (og_fix (fun i => i + 8) (og_fix (fun _ => 100) (og_loc 0))) (og_loc 1)])) (og_seq (og_exp (og_call m_OG_write [og_loc 0, og_ald 8 (og_fix (fun i => i + 6) (og_fix (fun _ => 100) (og_loc 0))) (og_loc 1)])) (og_exp (og_call m_OG_write [og_loc 0, og_ald 8 (og_fix (fun i => i + 7) (og_fix (fun _ => 100) (og_loc 0))) (og_loc 1)])))) (og_inc 1 1))) (og_seq (og_exp (og_call m_OG_write [og_loc 0, og_call m_OG_mixed [og_fix (fun _ => 23) (og_loc 0), og_get 11 (og_loc 0)]])) (og_ret (og_get 11 (og_loc 0)))))))))
set_option maxRecDepth 20000 in
theorem ok_OG_image : og_MOK og_y_OG_image og_c_OG_image 2 0 2 [5] m_OG_image := og_method (b := 0) (lt' := []) (by decide +kernel) (by decide) (by decide) (og_sseq (og_p_OG_pictureSize (og_aload_n (i := 0) (t := 3) (j := 0) (by rfl) (by rfl) d_OG_image_0) (og_iconst (by decide) d_OG_image_1) og_w400 d_OG_image_2) (og_sseq (og_callVv (og_acons (og_aload_n (i := 0) (t := 3) (j := 0) (by rfl) (by rfl) d_OG_image_5) (og_acons (og_idiv (og_f_Yard_month_N (og_f_OG_now (og_aload_n (i := 0) (t := 3) (j := 0) (by rfl) (by rfl) d_OG_image_6) og_w397 d_OG_image_7) og_w58 d_OG_image_10) (og_sipush (by decide) d_OG_image_13) d_OG_image_16) (og_anil))) ok_OG_write (v_OG_write (by decide)) og_w1101 d_OG_image_17) (og_sseq (og_callVv (og_acons (og_aload_n (i := 0) (t := 3) (j := 0) (by rfl) (by rfl) d_OG_image_20) (og_acons (og_irem (og_f_Yard_month_N (og_f_OG_now (og_aload_n (i := 0) (t := 3) (j := 0) (by rfl) (by rfl) d_OG_image_21) og_w397 d_OG_image_22) og_w58 d_OG_image_25) (og_sipush (by decide) d_OG_image_28) d_OG_image_31) (og_anil))) ok_OG_write (v_OG_write (by decide)) og_w1101 d_OG_image_32) (og_scut (og_sdrop (lt' := [(0, 5), (1, 0)]) (lt2 := [(0, 5)]) (og_sseq (og_istore_n (i := 1) (lt' := [(0, 5), (1, 0)]) (og_iconst (by decide) d_OG_image_35) (by rfl) (by decide) (by decide) d_OG_image_36) (og_swhile (T := 48) (F := 110) (cp0 := 104) (og_ccn og_n_lt (og_ige (tgt := 110) (og_iload_n (i := 1) (j := 1) (by rfl) (by rfl) d_OG_image_37) (og_f_Yard_graves_N (og_f_OG_now (og_aload_n (i := 0) (t := 3) (j := 0) (by rfl) (by rfl) d_OG_image_38) og_w397 d_OG_image_39) og_w47 d_OG_image_42) d_OG_image_45 (by decide))) (og_sseq (og_callVv (og_acons (og_aload_n (i := 0) (t := 3) (j := 0) (by rfl) (by rfl) d_OG_image_48) (og_acons (og_iald (N := 6) (og_f_Yard_deep_N (og_f_OG_now (og_aload_n (i := 0) (t := 3) (j := 0) (by rfl) (by rfl) d_OG_image_49) og_w397 d_OG_image_50) og_w68 d_OG_image_53) (by rfl) (og_iload_n (i := 1) (j := 1) (by rfl) (by rfl) d_OG_image_56) d_OG_image_57) (og_anil))) ok_OG_write (v_OG_write (by decide)) og_w1101 d_OG_image_58) (og_sseq (og_callVv (og_acons (og_aload_n (i := 0) (t := 3) (j := 0) (by rfl) (by rfl) d_OG_image_61) (og_acons (og_iald (N := 6) (og_f_Yard_due_N (og_f_OG_now (og_aload_n (i := 0) (t := 3) (j := 0) (by rfl) (by rfl) d_OG_image_62) og_w397 d_OG_image_63) og_w73 d_OG_image_66) (by rfl) (og_iload_n (i := 1) (j := 1) (by rfl) (by rfl) d_OG_image_69) d_OG_image_70) (og_anil))) ok_OG_write (v_OG_write (by decide)) og_w1101 d_OG_image_71) (og_callVv (og_acons (og_aload_n (i := 0) (t := 3) (j := 0) (by rfl) (by rfl) d_OG_image_74) (og_acons (og_eite (og_cbeq (tgt := 98) (og_callVz (og_acons (og_f_OG_now (og_aload_n (i := 0) (t := 3) (j := 0) (by rfl) (by rfl) d_OG_image_75) og_w397 d_OG_image_76) (og_acons (og_iload_n (i := 1) (j := 1) (by rfl) (by rfl) d_OG_image_79) (og_anil))) (by decide) ok_Yard_isFilled (v_Yard_isFilled (by decide)) og_w1036 d_OG_image_80) d_OG_image_83 (by decide)) (og_iald (N := 6) (og_f_Yard_who_N (og_f_OG_now (og_aload_n (i := 0) (t := 3) (j := 0) (by rfl) (by rfl) d_OG_image_86) og_w397 d_OG_image_87) og_w76 d_OG_image_90) (by rfl) (og_iload_n (i := 1) (j := 1) (by rfl) (by rfl) d_OG_image_93) d_OG_image_94) d_OG_image_95 (by decide) (og_sipush (by decide) d_OG_image_98)) (og_anil))) ok_OG_write (v_OG_write (by decide)) og_w1101 d_OG_image_101))) (og_gS (b' := 37) (og_iinc (j := 1) (lt' := [(0, 5), (1, 0)]) (by rfl) (by decide) (by decide) d_OG_image_104) d_OG_image_107 (by decide)))) (by decide)) (og_scut (og_sdrop (lt' := [(0, 5), (1, 0)]) (lt2 := [(0, 5)]) (og_sseq (og_istore_n (i := 1) (lt' := [(0, 5), (1, 0)]) (og_iconst (by decide) d_OG_image_110) (by rfl) (by decide) (by decide) d_OG_image_111) (og_swhile (T := 123) (F := 168) (cp0 := 162) (og_ccn og_n_lt (og_ige (tgt := 168) (og_iload_n (i := 1) (j := 1) (by rfl) (by rfl) d_OG_image_112) (og_f_Yard_people_N (og_f_OG_now (og_aload_n (i := 0) (t := 3) (j := 0) (by rfl) (by rfl) d_OG_image_113) og_w397 d_OG_image_114) og_w52 d_OG_image_117) d_OG_image_120 (by decide))) (og_sseq (og_callVv (og_acons (og_aload_n (i := 0) (t := 3) (j := 0) (by rfl) (by rfl) d_OG_image_123) (og_acons (og_iald (N := 8) (og_f_Yard_alive_N (og_f_OG_now (og_aload_n (i := 0) (t := 3) (j := 0) (by rfl) (by rfl) d_OG_image_124) og_w397 d_OG_image_125) og_w95 d_OG_image_128) (by rfl) (og_iload_n (i := 1) (j := 1) (by rfl) (by rfl) d_OG_image_131) d_OG_image_132) (og_anil))) ok_OG_write (v_OG_write (by decide)) og_w1101 d_OG_image_133) (og_sseq (og_callVv (og_acons (og_aload_n (i := 0) (t := 3) (j := 0) (by rfl) (by rfl) d_OG_image_136) (og_acons (og_iald (N := 8) (og_f_Yard_age_N (og_f_OG_now (og_aload_n (i := 0) (t := 3) (j := 0) (by rfl) (by rfl) d_OG_image_137) og_w397 d_OG_image_138) og_w85 d_OG_image_141) (by rfl) (og_iload_n (i := 1) (j := 1) (by rfl) (by rfl) d_OG_image_144) d_OG_image_145) (og_anil))) ok_OG_write (v_OG_write (by decide)) og_w1101 d_OG_image_146) (og_callVv (og_acons (og_aload_n (i := 0) (t := 3) (j := 0) (by rfl) (by rfl) d_OG_image_149) (og_acons (og_iald (N := 8) (og_f_Yard_will_N (og_f_OG_now (og_aload_n (i := 0) (t := 3) (j := 0) (by rfl) (by rfl) d_OG_image_150) og_w397 d_OG_image_151) og_w91 d_OG_image_154) (by rfl) (og_iload_n (i := 1) (j := 1) (by rfl) (by rfl) d_OG_image_157) d_OG_image_158) (og_anil))) ok_OG_write (v_OG_write (by decide)) og_w1101 d_OG_image_159))) (og_gS (b' := 112) (og_iinc (j := 1) (lt' := [(0, 5), (1, 0)]) (by rfl) (by decide) (by decide) d_OG_image_162) d_OG_image_165 (by decide)))) (by decide)) (og_sseq (og_callVv (og_acons (og_aload_n (i := 0) (t := 3) (j := 0) (by rfl) (by rfl) d_OG_image_168) (og_acons (og_callSi (og_acons (og_gen (og_f_OG_picture (og_aload_n (i := 0) (t := 3) (j := 0) (by rfl) (by rfl) d_OG_image_169) og_w399 d_OG_image_170) (by rfl)) (og_acons (og_f_OG_pictureSize (og_aload_n (i := 0) (t := 3) (j := 0) (by rfl) (by rfl) d_OG_image_173) og_w400 d_OG_image_174) (og_anil))) (by decide) ok_OG_mixed (v_OG_mixed (by decide)) og_w1105 d_OG_image_177) (og_anil))) ok_OG_write (v_OG_write (by decide)) og_w1101 d_OG_image_180) (og_sreti (og_f_OG_pictureSize (og_aload_n (i := 0) (t := 3) (j := 0) (by rfl) (by rfl) d_OG_image_183) og_w400 d_OG_image_184) d_OG_image_187))))))) (fun h => by cases h)
abbrev og_c_OG_octet : ByteArray := prog_1_method_32_code
abbrev og_y_OG_octet : MethodName := ⟨"OpenGraves", "octet", "(I)I"⟩
theorem v_OG_octet {own : String} {idx dep : Nat} (h : 1 + 1 ≤ dep) : og_sV own idx og_y_OG_octet og_c_OG_octet 2 0 1 dep 1 1 := ⟨⟨0, og_sl_OG, og_T_OG, 17, rfl, by decide, rfl⟩, og_w1109, og_w1110, og_w1, og_w1111, ⟨by decide +kernel, by decide +kernel, by decide +kernel⟩, h, by decide⟩
theorem d_OG_octet_0 : decode og_c_OG_octet 0 = .ok (.iload_n 1, 1) := by decide +kernel
theorem d_OG_octet_1 : decode og_c_OG_octet 1 = .ok (.ifCond .lt 20, 3) := by decide +kernel
theorem d_OG_octet_4 : decode og_c_OG_octet 4 = .ok (.iload_n 1, 1) := by decide +kernel
theorem d_OG_octet_5 : decode og_c_OG_octet 5 = .ok (.aload_n 0, 1) := by decide +kernel
theorem d_OG_octet_6 : decode og_c_OG_octet 6 = .ok (.getfield 343, 3) := by decide +kernel
theorem d_OG_octet_9 : decode og_c_OG_octet 9 = .ok (.if_icmp .ge 12, 3) := by decide +kernel
theorem d_OG_octet_12 : decode og_c_OG_octet 12 = .ok (.aload_n 0, 1) := by decide +kernel
theorem d_OG_octet_13 : decode og_c_OG_octet 13 = .ok (.getfield 98, 3) := by decide +kernel
theorem d_OG_octet_16 : decode og_c_OG_octet 16 = .ok (.iload_n 1, 1) := by decide +kernel
theorem d_OG_octet_17 : decode og_c_OG_octet 17 = .ok (.iaload, 1) := by decide +kernel
theorem d_OG_octet_18 : decode og_c_OG_octet 18 = .ok (.goto 4, 3) := by decide +kernel
theorem d_OG_octet_21 : decode og_c_OG_octet 21 = .ok (.iconst (-1), 1) := by decide +kernel
theorem d_OG_octet_22 : decode og_c_OG_octet 22 = .ok (.ireturn, 1) := by decide +kernel
def m_OG_octet : og_Dn := og_den [5, 0] 2 0 (og_ret (og_ei (og_and (og_cc og_rge (og_loc 1) (og_k 0)) (og_cc og_rlt (og_loc 1) (og_get 11 (og_loc 0)))) (og_ald 45 (og_fix (fun _ => 23) (og_loc 0)) (og_loc 1)) (og_k (-1))))
set_option maxRecDepth 20000 in
theorem ok_OG_octet : og_MOK og_y_OG_octet og_c_OG_octet 2 0 1 [5, 0] m_OG_octet := og_method (b := 0) (lt' := []) (by decide +kernel) (by decide) (by decide) (og_sreti (og_eite (og_cand (og_ccn og_n_ge (og_zlt (tgt := 21) (og_iload_n (i := 1) (j := 1) (by rfl) (by rfl) d_OG_octet_0) d_OG_octet_1 (by decide))) (og_ccn og_n_lt (og_ige (tgt := 21) (og_iload_n (i := 1) (j := 1) (by rfl) (by rfl) d_OG_octet_4) (og_f_OG_pictureSize (og_aload_n (i := 0) (t := 3) (j := 0) (by rfl) (by rfl) d_OG_octet_5) og_w400 d_OG_octet_6) d_OG_octet_9 (by decide)))) (og_iald (N := 45) (og_f_OG_picture (og_aload_n (i := 0) (t := 3) (j := 0) (by rfl) (by rfl) d_OG_octet_12) og_w399 d_OG_octet_13) (by rfl) (og_iload_n (i := 1) (j := 1) (by rfl) (by rfl) d_OG_octet_16) d_OG_octet_17) d_OG_octet_18 (by decide) (og_iconst (by decide) d_OG_octet_21)) d_OG_octet_22) (fun h => by cases h)
abbrev og_c_OG_isImage : ByteArray := prog_1_method_47_code
abbrev og_y_OG_isImage : MethodName := ⟨"OpenGraves", "isImage", "()Z"⟩
theorem v_OG_isImage {own : String} {idx dep : Nat} (h : 2 + 1 ≤ dep) : og_sV own idx og_y_OG_isImage og_c_OG_isImage 2 3 2 dep 1 0 := ⟨⟨0, og_sl_OG, og_T_OG, 17, rfl, by decide, rfl⟩, og_w1118, (og_memP (⟨"OpenGraves", "isImage", "()Z"⟩, 17) (List.mem_of_getElem? (i := 48) (by decide +kernel))), og_w1, og_w1119, ⟨by decide +kernel, by decide +kernel, by decide +kernel⟩, h, by decide⟩
theorem d_OG_isImage_0 : decode og_c_OG_isImage 0 = .ok (.iconst 3, 1) := by decide +kernel
theorem d_OG_isImage_1 : decode og_c_OG_isImage 1 = .ok (.iconst 3, 1) := by decide +kernel
theorem d_OG_isImage_2 : decode og_c_OG_isImage 2 = .ok (.aload_n 0, 1) := by decide +kernel
theorem d_OG_isImage_3 : decode og_c_OG_isImage 3 = .ok (.getfield 90, 3) := by decide +kernel
theorem d_OG_isImage_6 : decode og_c_OG_isImage 6 = .ok (.getfield 142, 3) := by decide +kernel
theorem d_OG_isImage_9 : decode og_c_OG_isImage 9 = .ok (.imul, 1) := by decide +kernel
theorem d_OG_isImage_10 : decode og_c_OG_isImage 10 = .ok (.iadd, 1) := by decide +kernel
theorem d_OG_isImage_11 : decode og_c_OG_isImage 11 = .ok (.iconst 3, 1) := by decide +kernel
theorem d_OG_isImage_12 : decode og_c_OG_isImage 12 = .ok (.aload_n 0, 1) := by decide +kernel
theorem d_OG_isImage_13 : decode og_c_OG_isImage 13 = .ok (.getfield 90, 3) := by decide +kernel
theorem d_OG_isImage_16 : decode og_c_OG_isImage 16 = .ok (.getfield 145, 3) := by decide +kernel
theorem d_OG_isImage_19 : decode og_c_OG_isImage 19 = .ok (.imul, 1) := by decide +kernel
theorem d_OG_isImage_20 : decode og_c_OG_isImage 20 = .ok (.iadd, 1) := by decide +kernel
theorem d_OG_isImage_21 : decode og_c_OG_isImage 21 = .ok (.istore_n 1, 1) := by decide +kernel
theorem d_OG_isImage_22 : decode og_c_OG_isImage 22 = .ok (.aload_n 0, 1) := by decide +kernel
theorem d_OG_isImage_23 : decode og_c_OG_isImage 23 = .ok (.getfield 22, 3) := by decide +kernel
theorem d_OG_isImage_26 : decode og_c_OG_isImage 26 = .ok (.getfield 108, 3) := by decide +kernel
theorem d_OG_isImage_29 : decode og_c_OG_isImage 29 = .ok (.iload_n 1, 1) := by decide +kernel
theorem d_OG_isImage_30 : decode og_c_OG_isImage 30 = .ok (.if_icmp .ne 33, 3) := by decide +kernel
theorem d_OG_isImage_33 : decode og_c_OG_isImage 33 = .ok (.aload_n 0, 1) := by decide +kernel
theorem d_OG_isImage_34 : decode og_c_OG_isImage 34 = .ok (.getfield 22, 3) := by decide +kernel
theorem d_OG_isImage_37 : decode og_c_OG_isImage 37 = .ok (.iload_n 1, 1) := by decide +kernel
theorem d_OG_isImage_38 : decode og_c_OG_isImage 38 = .ok (.iconst 1, 1) := by decide +kernel
theorem d_OG_isImage_39 : decode og_c_OG_isImage 39 = .ok (.isub, 1) := by decide +kernel
theorem d_OG_isImage_40 : decode og_c_OG_isImage 40 = .ok (.invokevirtual 267, 3) := by decide +kernel
theorem d_OG_isImage_43 : decode og_c_OG_isImage 43 = .ok (.aload_n 0, 1) := by decide +kernel
theorem d_OG_isImage_44 : decode og_c_OG_isImage 44 = .ok (.getfield 22, 3) := by decide +kernel
theorem d_OG_isImage_47 : decode og_c_OG_isImage 47 = .ok (.getfield 270, 3) := by decide +kernel
theorem d_OG_isImage_50 : decode og_c_OG_isImage 50 = .ok (.iload_n 1, 1) := by decide +kernel
theorem d_OG_isImage_51 : decode og_c_OG_isImage 51 = .ok (.iconst 1, 1) := by decide +kernel
theorem d_OG_isImage_52 : decode og_c_OG_isImage 52 = .ok (.isub, 1) := by decide +kernel
theorem d_OG_isImage_53 : decode og_c_OG_isImage 53 = .ok (.invokestatic 349, 3) := by decide +kernel
theorem d_OG_isImage_56 : decode og_c_OG_isImage 56 = .ok (.if_icmp .ne 7, 3) := by decide +kernel
theorem d_OG_isImage_59 : decode og_c_OG_isImage 59 = .ok (.iconst 1, 1) := by decide +kernel
theorem d_OG_isImage_60 : decode og_c_OG_isImage 60 = .ok (.goto 4, 3) := by decide +kernel
theorem d_OG_isImage_63 : decode og_c_OG_isImage 63 = .ok (.iconst 0, 1) := by decide +kernel
theorem d_OG_isImage_64 : decode og_c_OG_isImage 64 = .ok (.ireturn, 1) := by decide +kernel
def m_OG_isImage : og_Dn := og_den [5] 2 3 (og_seq (og_set 1 (og_add (og_add (og_k 3) (og_mul (og_k 3) (og_get 0 (og_fix (fun _ => 100) (og_loc 0))))) (og_mul (og_k 3) (og_get 1 (og_fix (fun _ => 100) (og_loc 0)))))) (og_retz (og_ec (og_and (og_cc og_req (og_get 1 (og_fix (fun _ => 1) (og_loc 0))) (og_loc 1)) (og_cc og_req (og_call m_Tape_at [og_fix (fun _ => 1) (og_loc 0), og_sub (og_loc 1) (og_k 1)]) (og_call m_OG_mixed [og_fix (fun _ => 2) (og_fix (fun _ => 1) (og_loc 0)), og_sub (og_loc 1) (og_k 1)]))))))
set_option maxRecDepth 20000 in
theorem ok_OG_isImage : og_MOK og_y_OG_isImage og_c_OG_isImage 2 3 2 [5] m_OG_isImage := og_method (b := 0) (lt' := []) (by decide +kernel) (by decide) (by decide) (og_sseq (og_istore_n (i := 1) (lt' := [(0, 5), (1, 0)]) (og_iadd (og_iadd (og_iconst (by decide) d_OG_isImage_0) (og_imul (og_iconst (by decide) d_OG_isImage_1) (og_f_Yard_graves_N (og_f_OG_now (og_aload_n (i := 0) (t := 3) (j := 0) (by rfl) (by rfl) d_OG_isImage_2) og_w397 d_OG_isImage_3) og_w47 d_OG_isImage_6) d_OG_isImage_9) d_OG_isImage_10) (og_imul (og_iconst (by decide) d_OG_isImage_11) (og_f_Yard_people_N (og_f_OG_now (og_aload_n (i := 0) (t := 3) (j := 0) (by rfl) (by rfl) d_OG_isImage_12) og_w397 d_OG_isImage_13) og_w52 d_OG_isImage_16) d_OG_isImage_19) d_OG_isImage_20) (by rfl) (by decide) (by decide) d_OG_isImage_21) (og_sretz (og_econd (b := 0) (og_cand (og_ccn og_n_eq (og_ine (tgt := 63) (og_f_Tape_size_N (og_f_OG_tape (og_aload_n (i := 0) (t := 3) (j := 0) (by rfl) (by rfl) d_OG_isImage_22) og_w389 d_OG_isImage_23) og_w167 d_OG_isImage_26) (og_iload_n (i := 1) (j := 1) (by rfl) (by rfl) d_OG_isImage_29) d_OG_isImage_30 (by decide))) (og_ccn og_n_eq (og_ine (tgt := 63) (og_callVi (og_acons (og_f_OG_tape (og_aload_n (i := 0) (t := 3) (j := 0) (by rfl) (by rfl) d_OG_isImage_33) og_w389 d_OG_isImage_34) (og_acons (og_isub (og_iload_n (i := 1) (j := 1) (by rfl) (by rfl) d_OG_isImage_37) (og_iconst (by decide) d_OG_isImage_38) d_OG_isImage_39) (og_anil))) (by decide) ok_Tape_at (v_Tape_at (by decide)) og_w975 d_OG_isImage_40) (og_callSi (og_acons (og_gen (og_f_Tape_bytes_N (og_f_OG_tape (og_aload_n (i := 0) (t := 3) (j := 0) (by rfl) (by rfl) d_OG_isImage_43) og_w389 d_OG_isImage_44) og_w166 d_OG_isImage_47) (by rfl)) (og_acons (og_isub (og_iload_n (i := 1) (j := 1) (by rfl) (by rfl) d_OG_isImage_50) (og_iconst (by decide) d_OG_isImage_51) d_OG_isImage_52) (og_anil))) (by decide) ok_OG_mixed (v_OG_mixed (by decide)) og_w1105 d_OG_isImage_53) d_OG_isImage_56 (by decide)))) d_OG_isImage_59 d_OG_isImage_60 (by decide) d_OG_isImage_63 (by rfl)) d_OG_isImage_64)) (fun h => by cases h)
abbrev og_c_Yard_isSoundInside : ByteArray := prog_12_method_18_code
abbrev og_y_Yard_isSoundInside : MethodName := ⟨"OpenGraves$Yard", "isSoundInside", "(I)Z"⟩
theorem v_Yard_isSoundInside {own : String} {idx dep : Nat} (h : 3 + 1 ≤ dep) : og_sV own idx og_y_Yard_isSoundInside og_c_Yard_isSoundInside 4 3 3 dep 12 1 := ⟨⟨11, og_sl_Yard, og_T_Yard, 13, rfl, by decide, rfl⟩, og_w1130, (og_memP (⟨"OpenGraves$Yard", "isSoundInside", "(I)Z"⟩, 13) (List.mem_of_getElem? (i := 50) (by decide +kernel))), og_w3, og_w1131, ⟨by decide +kernel, by decide +kernel, by decide +kernel⟩, h, by decide⟩
theorem d_Yard_isSoundInside_0 : decode og_c_Yard_isSoundInside 0 = .ok (.aload_n 0, 1) := by decide +kernel
theorem d_Yard_isSoundInside_1 : decode og_c_Yard_isSoundInside 1 = .ok (.getfield 21, 3) := by decide +kernel
theorem d_Yard_isSoundInside_4 : decode og_c_Yard_isSoundInside 4 = .ok (.iload_n 1, 1) := by decide +kernel
theorem d_Yard_isSoundInside_5 : decode og_c_Yard_isSoundInside 5 = .ok (.iaload, 1) := by decide +kernel
theorem d_Yard_isSoundInside_6 : decode og_c_Yard_isSoundInside 6 = .ok (.istore_n 2, 1) := by decide +kernel
theorem d_Yard_isSoundInside_7 : decode og_c_Yard_isSoundInside 7 = .ok (.iload_n 2, 1) := by decide +kernel
theorem d_Yard_isSoundInside_8 : decode og_c_Yard_isSoundInside 8 = .ok (.iconst (-1), 1) := by decide +kernel
theorem d_Yard_isSoundInside_9 : decode og_c_Yard_isSoundInside 9 = .ok (.if_icmp .ne 5, 3) := by decide +kernel
theorem d_Yard_isSoundInside_12 : decode og_c_Yard_isSoundInside 12 = .ok (.iconst 1, 1) := by decide +kernel
theorem d_Yard_isSoundInside_13 : decode og_c_Yard_isSoundInside 13 = .ok (.ireturn, 1) := by decide +kernel
theorem d_Yard_isSoundInside_14 : decode og_c_Yard_isSoundInside 14 = .ok (.aload_n 0, 1) := by decide +kernel
theorem d_Yard_isSoundInside_15 : decode og_c_Yard_isSoundInside 15 = .ok (.iload_n 2, 1) := by decide +kernel
theorem d_Yard_isSoundInside_16 : decode og_c_Yard_isSoundInside 16 = .ok (.invokevirtual 58, 3) := by decide +kernel
theorem d_Yard_isSoundInside_19 : decode og_c_Yard_isSoundInside 19 = .ok (.ifCond .eq 20, 3) := by decide +kernel
theorem d_Yard_isSoundInside_22 : decode og_c_Yard_isSoundInside 22 = .ok (.aload_n 0, 1) := by decide +kernel
theorem d_Yard_isSoundInside_23 : decode og_c_Yard_isSoundInside 23 = .ok (.iload_n 2, 1) := by decide +kernel
theorem d_Yard_isSoundInside_24 : decode og_c_Yard_isSoundInside 24 = .ok (.invokevirtual 78, 3) := by decide +kernel
theorem d_Yard_isSoundInside_27 : decode og_c_Yard_isSoundInside 27 = .ok (.ifCond .ne 12, 3) := by decide +kernel
theorem d_Yard_isSoundInside_30 : decode og_c_Yard_isSoundInside 30 = .ok (.aload_n 0, 1) := by decide +kernel
theorem d_Yard_isSoundInside_31 : decode og_c_Yard_isSoundInside 31 = .ok (.iload_n 2, 1) := by decide +kernel
theorem d_Yard_isSoundInside_32 : decode og_c_Yard_isSoundInside 32 = .ok (.iload_n 1, 1) := by decide +kernel
theorem d_Yard_isSoundInside_33 : decode og_c_Yard_isSoundInside 33 = .ok (.invokevirtual 68, 3) := by decide +kernel
theorem d_Yard_isSoundInside_36 : decode og_c_Yard_isSoundInside 36 = .ok (.ifCond .ne 5, 3) := by decide +kernel
theorem d_Yard_isSoundInside_39 : decode og_c_Yard_isSoundInside 39 = .ok (.iconst 0, 1) := by decide +kernel
theorem d_Yard_isSoundInside_40 : decode og_c_Yard_isSoundInside 40 = .ok (.ireturn, 1) := by decide +kernel
theorem d_Yard_isSoundInside_41 : decode og_c_Yard_isSoundInside 41 = .ok (.iconst 0, 1) := by decide +kernel
theorem d_Yard_isSoundInside_42 : decode og_c_Yard_isSoundInside 42 = .ok (.istore_n 3, 1) := by decide +kernel
theorem d_Yard_isSoundInside_43 : decode og_c_Yard_isSoundInside 43 = .ok (.iload_n 3, 1) := by decide +kernel
theorem d_Yard_isSoundInside_44 : decode og_c_Yard_isSoundInside 44 = .ok (.iload_n 1, 1) := by decide +kernel
theorem d_Yard_isSoundInside_45 : decode og_c_Yard_isSoundInside 45 = .ok (.if_icmp .ge 21, 3) := by decide +kernel
theorem d_Yard_isSoundInside_48 : decode og_c_Yard_isSoundInside 48 = .ok (.aload_n 0, 1) := by decide +kernel
theorem d_Yard_isSoundInside_49 : decode og_c_Yard_isSoundInside 49 = .ok (.getfield 21, 3) := by decide +kernel
theorem d_Yard_isSoundInside_52 : decode og_c_Yard_isSoundInside 52 = .ok (.iload_n 3, 1) := by decide +kernel
theorem d_Yard_isSoundInside_53 : decode og_c_Yard_isSoundInside 53 = .ok (.iaload, 1) := by decide +kernel
theorem d_Yard_isSoundInside_54 : decode og_c_Yard_isSoundInside 54 = .ok (.iload_n 2, 1) := by decide +kernel
theorem d_Yard_isSoundInside_55 : decode og_c_Yard_isSoundInside 55 = .ok (.if_icmp .ne 5, 3) := by decide +kernel
theorem d_Yard_isSoundInside_58 : decode og_c_Yard_isSoundInside 58 = .ok (.iconst 0, 1) := by decide +kernel
theorem d_Yard_isSoundInside_59 : decode og_c_Yard_isSoundInside 59 = .ok (.ireturn, 1) := by decide +kernel
theorem d_Yard_isSoundInside_60 : decode og_c_Yard_isSoundInside 60 = .ok (.iinc 3 1, 3) := by decide +kernel
theorem d_Yard_isSoundInside_63 : decode og_c_Yard_isSoundInside 63 = .ok (.goto (-20), 3) := by decide +kernel
theorem d_Yard_isSoundInside_66 : decode og_c_Yard_isSoundInside 66 = .ok (.iconst 1, 1) := by decide +kernel
theorem d_Yard_isSoundInside_67 : decode og_c_Yard_isSoundInside 67 = .ok (.ireturn, 1) := by decide +kernel
def m_Yard_isSoundInside : og_Dn := og_den [16, 0] 4 3 (og_seq (og_set 2 (og_ald 6 (og_fix (fun i => i + 4) (og_loc 0)) (og_loc 1))) (og_seq (og_if (og_cc og_req (og_loc 2) (og_k (-1))) (og_retz (og_k 1)) (og_skip)) (og_seq (og_if (og_or (og_or (og_not (og_cb (og_call m_Yard_isPerson [og_loc 0, og_loc 2]))) (og_cb (og_call m_Yard_lives [og_loc 0, og_loc 2]))) (og_not (og_cb (og_call m_Yard_fits [og_loc 0, og_loc 2, og_loc 1])))) (og_retz (og_k 0)) (og_skip)) (og_cut (og_seq (og_set 3 (og_k 0)) (og_while (og_cc og_rlt (og_loc 3) (og_loc 1)) (og_if (og_cc og_req (og_ald 6 (og_fix (fun i => i + 4) (og_loc 0)) (og_loc 3)) (og_loc 2)) (og_retz (og_k 0)) (og_skip)) (og_inc 3 1))) (og_retz (og_k 1))))))
set_option maxRecDepth 20000 in
theorem ok_Yard_isSoundInside : og_MOK og_y_Yard_isSoundInside og_c_Yard_isSoundInside 4 3 3 [16, 0] m_Yard_isSoundInside := og_method (b := 0) (lt' := []) (by decide +kernel) (by decide) (by decide) (og_sseq (og_istore_n (i := 2) (lt' := [(0, 16), (1, 0), (2, 0)]) (og_iald (N := 6) (og_f_Yard_who (og_aload_n (i := 0) (t := 14) (j := 0) (by rfl) (by rfl) d_Yard_isSoundInside_0) og_w74 d_Yard_isSoundInside_1) (by rfl) (og_iload_n (i := 1) (j := 1) (by rfl) (by rfl) d_Yard_isSoundInside_4) d_Yard_isSoundInside_5) (by rfl) (by decide) (by decide) d_Yard_isSoundInside_6) (og_sseq (og_sif (T := 12) (F := 14) (og_ccn og_n_eq (og_ine (tgt := 14) (og_iload_n (i := 2) (j := 2) (by rfl) (by rfl) d_Yard_isSoundInside_7) (og_iconst (by decide) d_Yard_isSoundInside_8) d_Yard_isSoundInside_9 (by decide))) (og_sretz (og_iconst (by decide) d_Yard_isSoundInside_12) d_Yard_isSoundInside_13) (og_sskip)) (og_sseq (og_sif (T := 39) (F := 41) (og_cor (og_cor (og_cnot (og_cbeq (tgt := 39) (og_callVz (og_acons (og_aload_n (i := 0) (t := 14) (j := 0) (by rfl) (by rfl) d_Yard_isSoundInside_14) (og_acons (og_iload_n (i := 2) (j := 2) (by rfl) (by rfl) d_Yard_isSoundInside_15) (og_anil))) (by decide) ok_Yard_isPerson (v_Yard_isPerson (by decide)) og_w792 d_Yard_isSoundInside_16) d_Yard_isSoundInside_19 (by decide))) (og_cbne (tgt := 39) (og_callVz (og_acons (og_aload_n (i := 0) (t := 14) (j := 0) (by rfl) (by rfl) d_Yard_isSoundInside_22) (og_acons (og_iload_n (i := 2) (j := 2) (by rfl) (by rfl) d_Yard_isSoundInside_23) (og_anil))) (by decide) ok_Yard_lives (v_Yard_lives (by decide)) og_w1132 d_Yard_isSoundInside_24) d_Yard_isSoundInside_27 (by decide))) (og_cnot (og_cbne (tgt := 41) (og_callVz (og_acons (og_aload_n (i := 0) (t := 14) (j := 0) (by rfl) (by rfl) d_Yard_isSoundInside_30) (og_acons (og_iload_n (i := 2) (j := 2) (by rfl) (by rfl) d_Yard_isSoundInside_31) (og_acons (og_iload_n (i := 1) (j := 1) (by rfl) (by rfl) d_Yard_isSoundInside_32) (og_anil)))) (by decide) ok_Yard_fits (v_Yard_fits (by decide)) og_w797 d_Yard_isSoundInside_33) d_Yard_isSoundInside_36 (by decide)))) (og_sretz (og_iconst (by decide) d_Yard_isSoundInside_39) d_Yard_isSoundInside_40) (og_sskip)) (og_scut (og_sdrop (lt' := [(0, 16), (1, 0), (2, 0), (3, 0)]) (lt2 := [(0, 16), (1, 0), (2, 0)]) (og_sseq (og_istore_n (i := 3) (lt' := [(0, 16), (1, 0), (2, 0), (3, 0)]) (og_iconst (by decide) d_Yard_isSoundInside_41) (by rfl) (by decide) (by decide) d_Yard_isSoundInside_42) (og_swhile (T := 48) (F := 66) (cp0 := 60) (og_ccn og_n_lt (og_ige (tgt := 66) (og_iload_n (i := 3) (j := 3) (by rfl) (by rfl) d_Yard_isSoundInside_43) (og_iload_n (i := 1) (j := 1) (by rfl) (by rfl) d_Yard_isSoundInside_44) d_Yard_isSoundInside_45 (by decide))) (og_sif (T := 58) (F := 60) (og_ccn og_n_eq (og_ine (tgt := 60) (og_iald (N := 6) (og_f_Yard_who (og_aload_n (i := 0) (t := 14) (j := 0) (by rfl) (by rfl) d_Yard_isSoundInside_48) og_w74 d_Yard_isSoundInside_49) (by rfl) (og_iload_n (i := 3) (j := 3) (by rfl) (by rfl) d_Yard_isSoundInside_52) d_Yard_isSoundInside_53) (og_iload_n (i := 2) (j := 2) (by rfl) (by rfl) d_Yard_isSoundInside_54) d_Yard_isSoundInside_55 (by decide))) (og_sretz (og_iconst (by decide) d_Yard_isSoundInside_58) d_Yard_isSoundInside_59) (og_sskip)) (og_gS (b' := 43) (og_iinc (j := 3) (lt' := [(0, 16), (1, 0), (2, 0), (3, 0)]) (by rfl) (by decide) (by decide) d_Yard_isSoundInside_60) d_Yard_isSoundInside_63 (by decide)))) (by decide)) (og_sretz (og_iconst (by decide) d_Yard_isSoundInside_66) d_Yard_isSoundInside_67))))) (fun h => by cases h)
abbrev og_c_Yard_isSound : ByteArray := prog_12_method_17_code
abbrev og_y_Yard_isSound : MethodName := ⟨"OpenGraves$Yard", "isSound", "()Z"⟩
theorem v_Yard_isSound {own : String} {idx dep : Nat} (h : 4 + 1 ≤ dep) : og_sV own idx og_y_Yard_isSound og_c_Yard_isSound 3 3 4 dep 12 0 := ⟨⟨11, og_sl_Yard, og_T_Yard, 13, rfl, by decide, rfl⟩, og_w1125, og_w1126, og_w3, og_w1127, ⟨by decide +kernel, by decide +kernel, by decide +kernel⟩, h, by decide⟩
theorem d_Yard_isSound_0 : decode og_c_Yard_isSound 0 = .ok (.aload_n 0, 1) := by decide +kernel
theorem d_Yard_isSound_1 : decode og_c_Yard_isSound 1 = .ok (.getfield 46, 3) := by decide +kernel
theorem d_Yard_isSound_4 : decode og_c_Yard_isSound 4 = .ok (.sipush 999, 3) := by decide +kernel
theorem d_Yard_isSound_7 : decode og_c_Yard_isSound 7 = .ok (.if_icmp .gt 7, 3) := by decide +kernel
theorem d_Yard_isSound_10 : decode og_c_Yard_isSound 10 = .ok (.iconst 1, 1) := by decide +kernel
theorem d_Yard_isSound_11 : decode og_c_Yard_isSound 11 = .ok (.goto 4, 3) := by decide +kernel
theorem d_Yard_isSound_14 : decode og_c_Yard_isSound 14 = .ok (.iconst 0, 1) := by decide +kernel
theorem d_Yard_isSound_15 : decode og_c_Yard_isSound 15 = .ok (.istore_n 1, 1) := by decide +kernel
theorem d_Yard_isSound_16 : decode og_c_Yard_isSound 16 = .ok (.iconst 0, 1) := by decide +kernel
theorem d_Yard_isSound_17 : decode og_c_Yard_isSound 17 = .ok (.istore_n 2, 1) := by decide +kernel
theorem d_Yard_isSound_18 : decode og_c_Yard_isSound 18 = .ok (.iload_n 1, 1) := by decide +kernel
theorem d_Yard_isSound_19 : decode og_c_Yard_isSound 19 = .ok (.ifCond .eq 55, 3) := by decide +kernel
theorem d_Yard_isSound_22 : decode og_c_Yard_isSound 22 = .ok (.iload_n 2, 1) := by decide +kernel
theorem d_Yard_isSound_23 : decode og_c_Yard_isSound 23 = .ok (.aload_n 0, 1) := by decide +kernel
theorem d_Yard_isSound_24 : decode og_c_Yard_isSound 24 = .ok (.getfield 43, 3) := by decide +kernel
theorem d_Yard_isSound_27 : decode og_c_Yard_isSound 27 = .ok (.if_icmp .ge 47, 3) := by decide +kernel
theorem d_Yard_isSound_30 : decode og_c_Yard_isSound 30 = .ok (.aload_n 0, 1) := by decide +kernel
theorem d_Yard_isSound_31 : decode og_c_Yard_isSound 31 = .ok (.getfield 33, 3) := by decide +kernel
theorem d_Yard_isSound_34 : decode og_c_Yard_isSound 34 = .ok (.iload_n 2, 1) := by decide +kernel
theorem d_Yard_isSound_35 : decode og_c_Yard_isSound 35 = .ok (.iaload, 1) := by decide +kernel
theorem d_Yard_isSound_36 : decode og_c_Yard_isSound 36 = .ok (.iconst 1, 1) := by decide +kernel
theorem d_Yard_isSound_37 : decode og_c_Yard_isSound 37 = .ok (.if_icmp .gt 29, 3) := by decide +kernel
theorem d_Yard_isSound_40 : decode og_c_Yard_isSound 40 = .ok (.aload_n 0, 1) := by decide +kernel
theorem d_Yard_isSound_41 : decode og_c_Yard_isSound 41 = .ok (.getfield 27, 3) := by decide +kernel
theorem d_Yard_isSound_44 : decode og_c_Yard_isSound 44 = .ok (.iload_n 2, 1) := by decide +kernel
theorem d_Yard_isSound_45 : decode og_c_Yard_isSound 45 = .ok (.iaload, 1) := by decide +kernel
theorem d_Yard_isSound_46 : decode og_c_Yard_isSound 46 = .ok (.bipush 99, 2) := by decide +kernel
theorem d_Yard_isSound_48 : decode og_c_Yard_isSound 48 = .ok (.if_icmp .gt 18, 3) := by decide +kernel
theorem d_Yard_isSound_51 : decode og_c_Yard_isSound 51 = .ok (.aload_n 0, 1) := by decide +kernel
theorem d_Yard_isSound_52 : decode og_c_Yard_isSound 52 = .ok (.getfield 30, 3) := by decide +kernel
theorem d_Yard_isSound_55 : decode og_c_Yard_isSound 55 = .ok (.iload_n 2, 1) := by decide +kernel
theorem d_Yard_isSound_56 : decode og_c_Yard_isSound 56 = .ok (.iaload, 1) := by decide +kernel
theorem d_Yard_isSound_57 : decode og_c_Yard_isSound 57 = .ok (.bipush 9, 2) := by decide +kernel
theorem d_Yard_isSound_59 : decode og_c_Yard_isSound 59 = .ok (.if_icmp .gt 7, 3) := by decide +kernel
theorem d_Yard_isSound_62 : decode og_c_Yard_isSound 62 = .ok (.iconst 1, 1) := by decide +kernel
theorem d_Yard_isSound_63 : decode og_c_Yard_isSound 63 = .ok (.goto 4, 3) := by decide +kernel
theorem d_Yard_isSound_66 : decode og_c_Yard_isSound 66 = .ok (.iconst 0, 1) := by decide +kernel
theorem d_Yard_isSound_67 : decode og_c_Yard_isSound 67 = .ok (.istore_n 1, 1) := by decide +kernel
theorem d_Yard_isSound_68 : decode og_c_Yard_isSound 68 = .ok (.iinc 2 1, 3) := by decide +kernel
theorem d_Yard_isSound_71 : decode og_c_Yard_isSound 71 = .ok (.goto (-53), 3) := by decide +kernel
theorem d_Yard_isSound_74 : decode og_c_Yard_isSound 74 = .ok (.iconst 0, 1) := by decide +kernel
theorem d_Yard_isSound_75 : decode og_c_Yard_isSound 75 = .ok (.istore_n 2, 1) := by decide +kernel
theorem d_Yard_isSound_76 : decode og_c_Yard_isSound 76 = .ok (.iload_n 1, 1) := by decide +kernel
theorem d_Yard_isSound_77 : decode og_c_Yard_isSound 77 = .ok (.ifCond .eq 53, 3) := by decide +kernel
theorem d_Yard_isSound_80 : decode og_c_Yard_isSound 80 = .ok (.iload_n 2, 1) := by decide +kernel
theorem d_Yard_isSound_81 : decode og_c_Yard_isSound 81 = .ok (.aload_n 0, 1) := by decide +kernel
theorem d_Yard_isSound_82 : decode og_c_Yard_isSound 82 = .ok (.getfield 39, 3) := by decide +kernel
theorem d_Yard_isSound_85 : decode og_c_Yard_isSound 85 = .ok (.if_icmp .ge 45, 3) := by decide +kernel
theorem d_Yard_isSound_88 : decode og_c_Yard_isSound 88 = .ok (.aload_n 0, 1) := by decide +kernel
theorem d_Yard_isSound_89 : decode og_c_Yard_isSound 89 = .ok (.getfield 15, 3) := by decide +kernel
theorem d_Yard_isSound_92 : decode og_c_Yard_isSound 92 = .ok (.iload_n 2, 1) := by decide +kernel
theorem d_Yard_isSound_93 : decode og_c_Yard_isSound 93 = .ok (.iaload, 1) := by decide +kernel
theorem d_Yard_isSound_94 : decode og_c_Yard_isSound 94 = .ok (.bipush 9, 2) := by decide +kernel
theorem d_Yard_isSound_96 : decode og_c_Yard_isSound 96 = .ok (.if_icmp .gt 26, 3) := by decide +kernel
theorem d_Yard_isSound_99 : decode og_c_Yard_isSound 99 = .ok (.aload_n 0, 1) := by decide +kernel
theorem d_Yard_isSound_100 : decode og_c_Yard_isSound 100 = .ok (.getfield 18, 3) := by decide +kernel
theorem d_Yard_isSound_103 : decode og_c_Yard_isSound 103 = .ok (.iload_n 2, 1) := by decide +kernel
theorem d_Yard_isSound_104 : decode og_c_Yard_isSound 104 = .ok (.iaload, 1) := by decide +kernel
theorem d_Yard_isSound_105 : decode og_c_Yard_isSound 105 = .ok (.bipush 30, 2) := by decide +kernel
theorem d_Yard_isSound_107 : decode og_c_Yard_isSound 107 = .ok (.if_icmp .gt 15, 3) := by decide +kernel
theorem d_Yard_isSound_110 : decode og_c_Yard_isSound 110 = .ok (.aload_n 0, 1) := by decide +kernel
theorem d_Yard_isSound_111 : decode og_c_Yard_isSound 111 = .ok (.iload_n 2, 1) := by decide +kernel
theorem d_Yard_isSound_112 : decode og_c_Yard_isSound 112 = .ok (.invokevirtual 75, 3) := by decide +kernel
theorem d_Yard_isSound_115 : decode og_c_Yard_isSound 115 = .ok (.ifCond .eq 7, 3) := by decide +kernel
theorem d_Yard_isSound_118 : decode og_c_Yard_isSound 118 = .ok (.iconst 1, 1) := by decide +kernel
theorem d_Yard_isSound_119 : decode og_c_Yard_isSound 119 = .ok (.goto 4, 3) := by decide +kernel
theorem d_Yard_isSound_122 : decode og_c_Yard_isSound 122 = .ok (.iconst 0, 1) := by decide +kernel
theorem d_Yard_isSound_123 : decode og_c_Yard_isSound 123 = .ok (.istore_n 1, 1) := by decide +kernel
theorem d_Yard_isSound_124 : decode og_c_Yard_isSound 124 = .ok (.iinc 2 1, 3) := by decide +kernel
theorem d_Yard_isSound_127 : decode og_c_Yard_isSound 127 = .ok (.goto (-51), 3) := by decide +kernel
theorem d_Yard_isSound_130 : decode og_c_Yard_isSound 130 = .ok (.iload_n 1, 1) := by decide +kernel
theorem d_Yard_isSound_131 : decode og_c_Yard_isSound 131 = .ok (.ireturn, 1) := by decide +kernel
def m_Yard_isSound : og_Dn := og_den [16] 3 3 (og_seq (og_set 1 (og_ec (og_cc og_rle (og_get 2 (og_loc 0)) (og_k 999)))) (og_cut (og_seq (og_set 2 (og_k 0)) (og_while (og_and (og_cb (og_loc 1)) (og_cc og_rlt (og_loc 2) (og_get 1 (og_loc 0)))) (og_set 1 (og_ec (og_and (og_and (og_cc og_rle (og_ald 8 (og_fix (fun i => i + 8) (og_loc 0)) (og_loc 2)) (og_k 1)) (og_cc og_rle (og_ald 8 (og_fix (fun i => i + 6) (og_loc 0)) (og_loc 2)) (og_k 99))) (og_cc og_rle (og_ald 8 (og_fix (fun i => i + 7) (og_loc 0)) (og_loc 2)) (og_k 9))))) (og_inc 2 1))) (og_cut (og_seq (og_set 2 (og_k 0)) (og_while (og_and (og_cb (og_loc 1)) (og_cc og_rlt (og_loc 2) (og_get 0 (og_loc 0)))) (og_set 1 (og_ec (og_and (og_and (og_cc og_rle (og_ald 6 (og_fix (fun i => i + 2) (og_loc 0)) (og_loc 2)) (og_k 9)) (og_cc og_rle (og_ald 6 (og_fix (fun i => i + 3) (og_loc 0)) (og_loc 2)) (og_k 30))) (og_cb (og_call m_Yard_isSoundInside [og_loc 0, og_loc 2]))))) (og_inc 2 1))) (og_retz (og_loc 1)))))
set_option maxRecDepth 20000 in
theorem ok_Yard_isSound : og_MOK og_y_Yard_isSound og_c_Yard_isSound 3 3 4 [16] m_Yard_isSound := og_method (b := 0) (lt' := []) (by decide +kernel) (by decide) (by decide) (og_sseq (og_istore_n (i := 1) (lt' := [(0, 16), (1, 0)]) (og_econd (b := 0) (og_ccn og_n_le (og_igt (tgt := 14) (og_f_Yard_month (og_aload_n (i := 0) (t := 14) (j := 0) (by rfl) (by rfl) d_Yard_isSound_0) og_w54 d_Yard_isSound_1) (og_sipush (by decide) d_Yard_isSound_4) d_Yard_isSound_7 (by decide))) d_Yard_isSound_10 d_Yard_isSound_11 (by decide) d_Yard_isSound_14 (by rfl)) (by rfl) (by decide) (by decide) d_Yard_isSound_15) (og_scut (og_sdrop (lt' := [(0, 16), (1, 0), (2, 0)]) (lt2 := [(0, 16), (1, 0)]) (og_sseq (og_istore_n (i := 2) (lt' := [(0, 16), (1, 0), (2, 0)]) (og_iconst (by decide) d_Yard_isSound_16) (by rfl) (by decide) (by decide) d_Yard_isSound_17) (og_swhile (T := 30) (F := 74) (cp0 := 68) (og_cand (og_cbeq (tgt := 74) (og_iload_n (i := 1) (j := 1) (by rfl) (by rfl) d_Yard_isSound_18) d_Yard_isSound_19 (by decide)) (og_ccn og_n_lt (og_ige (tgt := 74) (og_iload_n (i := 2) (j := 2) (by rfl) (by rfl) d_Yard_isSound_22) (og_f_Yard_people (og_aload_n (i := 0) (t := 14) (j := 0) (by rfl) (by rfl) d_Yard_isSound_23) og_w48 d_Yard_isSound_24) d_Yard_isSound_27 (by decide)))) (og_istore_n (i := 1) (lt' := [(0, 16), (1, 0), (2, 0)]) (og_econd (b := 0) (og_cand (og_cand (og_ccn og_n_le (og_igt (tgt := 66) (og_iald (N := 8) (og_f_Yard_alive (og_aload_n (i := 0) (t := 14) (j := 0) (by rfl) (by rfl) d_Yard_isSound_30) og_w92 d_Yard_isSound_31) (by rfl) (og_iload_n (i := 2) (j := 2) (by rfl) (by rfl) d_Yard_isSound_34) d_Yard_isSound_35) (og_iconst (by decide) d_Yard_isSound_36) d_Yard_isSound_37 (by decide))) (og_ccn og_n_le (og_igt (tgt := 66) (og_iald (N := 8) (og_f_Yard_age (og_aload_n (i := 0) (t := 14) (j := 0) (by rfl) (by rfl) d_Yard_isSound_40) og_w81 d_Yard_isSound_41) (by rfl) (og_iload_n (i := 2) (j := 2) (by rfl) (by rfl) d_Yard_isSound_44) d_Yard_isSound_45) (og_bipush (by decide) d_Yard_isSound_46) d_Yard_isSound_48 (by decide)))) (og_ccn og_n_le (og_igt (tgt := 66) (og_iald (N := 8) (og_f_Yard_will (og_aload_n (i := 0) (t := 14) (j := 0) (by rfl) (by rfl) d_Yard_isSound_51) og_w86 d_Yard_isSound_52) (by rfl) (og_iload_n (i := 2) (j := 2) (by rfl) (by rfl) d_Yard_isSound_55) d_Yard_isSound_56) (og_bipush (by decide) d_Yard_isSound_57) d_Yard_isSound_59 (by decide)))) d_Yard_isSound_62 d_Yard_isSound_63 (by decide) d_Yard_isSound_66 (by rfl)) (by rfl) (by decide) (by decide) d_Yard_isSound_67) (og_gS (b' := 18) (og_iinc (j := 2) (lt' := [(0, 16), (1, 0), (2, 0)]) (by rfl) (by decide) (by decide) d_Yard_isSound_68) d_Yard_isSound_71 (by decide)))) (by decide)) (og_scut (og_sdrop (lt' := [(0, 16), (1, 0), (2, 0)]) (lt2 := [(0, 16), (1, 0)]) (og_sseq (og_istore_n (i := 2) (lt' := [(0, 16), (1, 0), (2, 0)]) (og_iconst (by decide) d_Yard_isSound_74) (by rfl) (by decide) (by decide) d_Yard_isSound_75) (og_swhile (T := 88) (F := 130) (cp0 := 124) (og_cand (og_cbeq (tgt := 130) (og_iload_n (i := 1) (j := 1) (by rfl) (by rfl) d_Yard_isSound_76) d_Yard_isSound_77 (by decide)) (og_ccn og_n_lt (og_ige (tgt := 130) (og_iload_n (i := 2) (j := 2) (by rfl) (by rfl) d_Yard_isSound_80) (og_f_Yard_graves (og_aload_n (i := 0) (t := 14) (j := 0) (by rfl) (by rfl) d_Yard_isSound_81) og_w41 d_Yard_isSound_82) d_Yard_isSound_85 (by decide)))) (og_istore_n (i := 1) (lt' := [(0, 16), (1, 0), (2, 0)]) (og_econd (b := 0) (og_cand (og_cand (og_ccn og_n_le (og_igt (tgt := 122) (og_iald (N := 6) (og_f_Yard_deep (og_aload_n (i := 0) (t := 14) (j := 0) (by rfl) (by rfl) d_Yard_isSound_88) og_w65 d_Yard_isSound_89) (by rfl) (og_iload_n (i := 2) (j := 2) (by rfl) (by rfl) d_Yard_isSound_92) d_Yard_isSound_93) (og_bipush (by decide) d_Yard_isSound_94) d_Yard_isSound_96 (by decide))) (og_ccn og_n_le (og_igt (tgt := 122) (og_iald (N := 6) (og_f_Yard_due (og_aload_n (i := 0) (t := 14) (j := 0) (by rfl) (by rfl) d_Yard_isSound_99) og_w69 d_Yard_isSound_100) (by rfl) (og_iload_n (i := 2) (j := 2) (by rfl) (by rfl) d_Yard_isSound_103) d_Yard_isSound_104) (og_bipush (by decide) d_Yard_isSound_105) d_Yard_isSound_107 (by decide)))) (og_cbeq (tgt := 122) (og_callVz (og_acons (og_aload_n (i := 0) (t := 14) (j := 0) (by rfl) (by rfl) d_Yard_isSound_110) (og_acons (og_iload_n (i := 2) (j := 2) (by rfl) (by rfl) d_Yard_isSound_111) (og_anil))) (by decide) ok_Yard_isSoundInside (v_Yard_isSoundInside (by decide)) og_w1128 d_Yard_isSound_112) d_Yard_isSound_115 (by decide))) d_Yard_isSound_118 d_Yard_isSound_119 (by decide) d_Yard_isSound_122 (by rfl)) (by rfl) (by decide) (by decide) d_Yard_isSound_123) (og_gS (b' := 76) (og_iinc (j := 2) (lt' := [(0, 16), (1, 0), (2, 0)]) (by rfl) (by decide) (by decide) d_Yard_isSound_124) d_Yard_isSound_127 (by decide)))) (by decide)) (og_sretz (og_iload_n (i := 1) (j := 1) (by rfl) (by rfl) d_Yard_isSound_130) d_Yard_isSound_131)))) (fun h => by cases h)
abbrev og_c_OG_readImage : ByteArray := prog_1_method_48_code
abbrev og_y_OG_readImage : MethodName := ⟨"OpenGraves", "readImage", "(LOpenGraves$Yard;)Z"⟩
theorem v_OG_readImage {own : String} {idx dep : Nat} (h : 5 + 1 ≤ dep) : og_sV own idx og_y_OG_readImage og_c_OG_readImage 5 3 5 dep 1 1 := ⟨⟨0, og_sl_OG, og_T_OG, 17, rfl, by decide, rfl⟩, og_w1122, (og_memP (⟨"OpenGraves", "readImage", "(LOpenGraves$Yard;)Z"⟩, 17) (List.mem_of_getElem? (i := 49) (by decide +kernel))), og_w1, og_w1123, ⟨by decide +kernel, by decide +kernel, by decide +kernel⟩, h, by decide⟩
theorem d_OG_readImage_0 : decode og_c_OG_readImage 0 = .ok (.aload_n 1, 1) := by decide +kernel
theorem d_OG_readImage_1 : decode og_c_OG_readImage 1 = .ok (.aload_n 0, 1) := by decide +kernel
theorem d_OG_readImage_2 : decode og_c_OG_readImage 2 = .ok (.getfield 90, 3) := by decide +kernel
theorem d_OG_readImage_5 : decode og_c_OG_readImage 5 = .ok (.invokevirtual 129, 3) := by decide +kernel
theorem d_OG_readImage_8 : decode og_c_OG_readImage 8 = .ok (.aload_n 1, 1) := by decide +kernel
theorem d_OG_readImage_9 : decode og_c_OG_readImage 9 = .ok (.iconst 0, 1) := by decide +kernel
theorem d_OG_readImage_10 : decode og_c_OG_readImage 10 = .ok (.putfield 161, 3) := by decide +kernel
theorem d_OG_readImage_13 : decode og_c_OG_readImage 13 = .ok (.aload_n 1, 1) := by decide +kernel
theorem d_OG_readImage_14 : decode og_c_OG_readImage 14 = .ok (.sipush 256, 3) := by decide +kernel
theorem d_OG_readImage_17 : decode og_c_OG_readImage 17 = .ok (.aload_n 0, 1) := by decide +kernel
theorem d_OG_readImage_18 : decode og_c_OG_readImage 18 = .ok (.getfield 22, 3) := by decide +kernel
theorem d_OG_readImage_21 : decode og_c_OG_readImage 21 = .ok (.iconst 0, 1) := by decide +kernel
theorem d_OG_readImage_22 : decode og_c_OG_readImage 22 = .ok (.invokevirtual 267, 3) := by decide +kernel
theorem d_OG_readImage_25 : decode og_c_OG_readImage 25 = .ok (.imul, 1) := by decide +kernel
theorem d_OG_readImage_26 : decode og_c_OG_readImage 26 = .ok (.aload_n 0, 1) := by decide +kernel
theorem d_OG_readImage_27 : decode og_c_OG_readImage 27 = .ok (.getfield 22, 3) := by decide +kernel
theorem d_OG_readImage_30 : decode og_c_OG_readImage 30 = .ok (.iconst 1, 1) := by decide +kernel
theorem d_OG_readImage_31 : decode og_c_OG_readImage 31 = .ok (.invokevirtual 267, 3) := by decide +kernel
theorem d_OG_readImage_34 : decode og_c_OG_readImage 34 = .ok (.iadd, 1) := by decide +kernel
theorem d_OG_readImage_35 : decode og_c_OG_readImage 35 = .ok (.putfield 148, 3) := by decide +kernel
theorem d_OG_readImage_38 : decode og_c_OG_readImage 38 = .ok (.iconst 2, 1) := by decide +kernel
theorem d_OG_readImage_39 : decode og_c_OG_readImage 39 = .ok (.istore_n 2, 1) := by decide +kernel
theorem d_OG_readImage_40 : decode og_c_OG_readImage 40 = .ok (.iconst 0, 1) := by decide +kernel
theorem d_OG_readImage_41 : decode og_c_OG_readImage 41 = .ok (.istore_n 3, 1) := by decide +kernel
theorem d_OG_readImage_42 : decode og_c_OG_readImage 42 = .ok (.iload_n 3, 1) := by decide +kernel
theorem d_OG_readImage_43 : decode og_c_OG_readImage 43 = .ok (.aload_n 1, 1) := by decide +kernel
theorem d_OG_readImage_44 : decode og_c_OG_readImage 44 = .ok (.getfield 142, 3) := by decide +kernel
theorem d_OG_readImage_47 : decode og_c_OG_readImage 47 = .ok (.if_icmp .ge 74, 3) := by decide +kernel
theorem d_OG_readImage_50 : decode og_c_OG_readImage 50 = .ok (.aload_n 1, 1) := by decide +kernel
theorem d_OG_readImage_51 : decode og_c_OG_readImage 51 = .ok (.getfield 181, 3) := by decide +kernel
theorem d_OG_readImage_54 : decode og_c_OG_readImage 54 = .ok (.iload_n 3, 1) := by decide +kernel
theorem d_OG_readImage_55 : decode og_c_OG_readImage 55 = .ok (.aload_n 0, 1) := by decide +kernel
theorem d_OG_readImage_56 : decode og_c_OG_readImage 56 = .ok (.getfield 22, 3) := by decide +kernel
theorem d_OG_readImage_59 : decode og_c_OG_readImage 59 = .ok (.iload_n 2, 1) := by decide +kernel
theorem d_OG_readImage_60 : decode og_c_OG_readImage 60 = .ok (.invokevirtual 267, 3) := by decide +kernel
theorem d_OG_readImage_63 : decode og_c_OG_readImage 63 = .ok (.iastore, 1) := by decide +kernel
theorem d_OG_readImage_64 : decode og_c_OG_readImage 64 = .ok (.aload_n 1, 1) := by decide +kernel
theorem d_OG_readImage_65 : decode og_c_OG_readImage 65 = .ok (.getfield 184, 3) := by decide +kernel
theorem d_OG_readImage_68 : decode og_c_OG_readImage 68 = .ok (.iload_n 3, 1) := by decide +kernel
theorem d_OG_readImage_69 : decode og_c_OG_readImage 69 = .ok (.aload_n 0, 1) := by decide +kernel
theorem d_OG_readImage_70 : decode og_c_OG_readImage 70 = .ok (.getfield 22, 3) := by decide +kernel
theorem d_OG_readImage_73 : decode og_c_OG_readImage 73 = .ok (.iload_n 2, 1) := by decide +kernel
theorem d_OG_readImage_74 : decode og_c_OG_readImage 74 = .ok (.iconst 1, 1) := by decide +kernel
theorem d_OG_readImage_75 : decode og_c_OG_readImage 75 = .ok (.iadd, 1) := by decide +kernel
theorem d_OG_readImage_76 : decode og_c_OG_readImage 76 = .ok (.invokevirtual 267, 3) := by decide +kernel
theorem d_OG_readImage_79 : decode og_c_OG_readImage 79 = .ok (.iastore, 1) := by decide +kernel
theorem d_OG_readImage_80 : decode og_c_OG_readImage 80 = .ok (.aload_n 0, 1) := by decide +kernel
theorem d_OG_readImage_81 : decode og_c_OG_readImage 81 = .ok (.getfield 22, 3) := by decide +kernel
theorem d_OG_readImage_84 : decode og_c_OG_readImage 84 = .ok (.iload_n 2, 1) := by decide +kernel
theorem d_OG_readImage_85 : decode og_c_OG_readImage 85 = .ok (.iconst 2, 1) := by decide +kernel
theorem d_OG_readImage_86 : decode og_c_OG_readImage 86 = .ok (.iadd, 1) := by decide +kernel
theorem d_OG_readImage_87 : decode og_c_OG_readImage 87 = .ok (.invokevirtual 267, 3) := by decide +kernel
theorem d_OG_readImage_90 : decode og_c_OG_readImage 90 = .ok (.istore 4, 2) := by decide +kernel
theorem d_OG_readImage_92 : decode og_c_OG_readImage 92 = .ok (.aload_n 1, 1) := by decide +kernel
theorem d_OG_readImage_93 : decode og_c_OG_readImage 93 = .ok (.getfield 187, 3) := by decide +kernel
theorem d_OG_readImage_96 : decode og_c_OG_readImage 96 = .ok (.iload_n 3, 1) := by decide +kernel
theorem d_OG_readImage_97 : decode og_c_OG_readImage 97 = .ok (.iload 4, 2) := by decide +kernel
theorem d_OG_readImage_99 : decode og_c_OG_readImage 99 = .ok (.sipush 255, 3) := by decide +kernel
theorem d_OG_readImage_102 : decode og_c_OG_readImage 102 = .ok (.if_icmp .ne 7, 3) := by decide +kernel
theorem d_OG_readImage_105 : decode og_c_OG_readImage 105 = .ok (.iconst (-1), 1) := by decide +kernel
theorem d_OG_readImage_106 : decode og_c_OG_readImage 106 = .ok (.goto 5, 3) := by decide +kernel
theorem d_OG_readImage_109 : decode og_c_OG_readImage 109 = .ok (.iload 4, 2) := by decide +kernel
theorem d_OG_readImage_111 : decode og_c_OG_readImage 111 = .ok (.iastore, 1) := by decide +kernel
theorem d_OG_readImage_112 : decode og_c_OG_readImage 112 = .ok (.iinc 2 3, 3) := by decide +kernel
theorem d_OG_readImage_115 : decode og_c_OG_readImage 115 = .ok (.iinc 3 1, 3) := by decide +kernel
theorem d_OG_readImage_118 : decode og_c_OG_readImage 118 = .ok (.goto (-76), 3) := by decide +kernel
theorem d_OG_readImage_121 : decode og_c_OG_readImage 121 = .ok (.iconst 0, 1) := by decide +kernel
theorem d_OG_readImage_122 : decode og_c_OG_readImage 122 = .ok (.istore_n 3, 1) := by decide +kernel
theorem d_OG_readImage_123 : decode og_c_OG_readImage 123 = .ok (.iload_n 3, 1) := by decide +kernel
theorem d_OG_readImage_124 : decode og_c_OG_readImage 124 = .ok (.aload_n 1, 1) := by decide +kernel
theorem d_OG_readImage_125 : decode og_c_OG_readImage 125 = .ok (.getfield 145, 3) := by decide +kernel
theorem d_OG_readImage_128 : decode og_c_OG_readImage 128 = .ok (.if_icmp .ge 58, 3) := by decide +kernel
theorem d_OG_readImage_131 : decode og_c_OG_readImage 131 = .ok (.aload_n 1, 1) := by decide +kernel
theorem d_OG_readImage_132 : decode og_c_OG_readImage 132 = .ok (.getfield 202, 3) := by decide +kernel
theorem d_OG_readImage_135 : decode og_c_OG_readImage 135 = .ok (.iload_n 3, 1) := by decide +kernel
theorem d_OG_readImage_136 : decode og_c_OG_readImage 136 = .ok (.aload_n 0, 1) := by decide +kernel
theorem d_OG_readImage_137 : decode og_c_OG_readImage 137 = .ok (.getfield 22, 3) := by decide +kernel
theorem d_OG_readImage_140 : decode og_c_OG_readImage 140 = .ok (.iload_n 2, 1) := by decide +kernel
theorem d_OG_readImage_141 : decode og_c_OG_readImage 141 = .ok (.invokevirtual 267, 3) := by decide +kernel
theorem d_OG_readImage_144 : decode og_c_OG_readImage 144 = .ok (.iastore, 1) := by decide +kernel
theorem d_OG_readImage_145 : decode og_c_OG_readImage 145 = .ok (.aload_n 1, 1) := by decide +kernel
theorem d_OG_readImage_146 : decode og_c_OG_readImage 146 = .ok (.getfield 196, 3) := by decide +kernel
theorem d_OG_readImage_149 : decode og_c_OG_readImage 149 = .ok (.iload_n 3, 1) := by decide +kernel
theorem d_OG_readImage_150 : decode og_c_OG_readImage 150 = .ok (.aload_n 0, 1) := by decide +kernel
theorem d_OG_readImage_151 : decode og_c_OG_readImage 151 = .ok (.getfield 22, 3) := by decide +kernel
theorem d_OG_readImage_154 : decode og_c_OG_readImage 154 = .ok (.iload_n 2, 1) := by decide +kernel
theorem d_OG_readImage_155 : decode og_c_OG_readImage 155 = .ok (.iconst 1, 1) := by decide +kernel
theorem d_OG_readImage_156 : decode og_c_OG_readImage 156 = .ok (.iadd, 1) := by decide +kernel
theorem d_OG_readImage_157 : decode og_c_OG_readImage 157 = .ok (.invokevirtual 267, 3) := by decide +kernel
theorem d_OG_readImage_160 : decode og_c_OG_readImage 160 = .ok (.iastore, 1) := by decide +kernel
theorem d_OG_readImage_161 : decode og_c_OG_readImage 161 = .ok (.aload_n 1, 1) := by decide +kernel
theorem d_OG_readImage_162 : decode og_c_OG_readImage 162 = .ok (.getfield 199, 3) := by decide +kernel
theorem d_OG_readImage_165 : decode og_c_OG_readImage 165 = .ok (.iload_n 3, 1) := by decide +kernel
theorem d_OG_readImage_166 : decode og_c_OG_readImage 166 = .ok (.aload_n 0, 1) := by decide +kernel
theorem d_OG_readImage_167 : decode og_c_OG_readImage 167 = .ok (.getfield 22, 3) := by decide +kernel
theorem d_OG_readImage_170 : decode og_c_OG_readImage 170 = .ok (.iload_n 2, 1) := by decide +kernel
theorem d_OG_readImage_171 : decode og_c_OG_readImage 171 = .ok (.iconst 2, 1) := by decide +kernel
theorem d_OG_readImage_172 : decode og_c_OG_readImage 172 = .ok (.iadd, 1) := by decide +kernel
theorem d_OG_readImage_173 : decode og_c_OG_readImage 173 = .ok (.invokevirtual 267, 3) := by decide +kernel
theorem d_OG_readImage_176 : decode og_c_OG_readImage 176 = .ok (.iastore, 1) := by decide +kernel
theorem d_OG_readImage_177 : decode og_c_OG_readImage 177 = .ok (.iinc 2 3, 3) := by decide +kernel
theorem d_OG_readImage_180 : decode og_c_OG_readImage 180 = .ok (.iinc 3 1, 3) := by decide +kernel
theorem d_OG_readImage_183 : decode og_c_OG_readImage 183 = .ok (.goto (-60), 3) := by decide +kernel
theorem d_OG_readImage_186 : decode og_c_OG_readImage 186 = .ok (.aload_n 1, 1) := by decide +kernel
theorem d_OG_readImage_187 : decode og_c_OG_readImage 187 = .ok (.invokevirtual 388, 3) := by decide +kernel
theorem d_OG_readImage_190 : decode og_c_OG_readImage 190 = .ok (.ireturn, 1) := by decide +kernel
def m_OG_readImage : og_Dn := og_den [5, 16] 5 3 (og_seq (og_exp (og_call m_Yard_become [og_loc 1, og_fix (fun _ => 100) (og_loc 0)])) (og_seq (og_putf 3 (og_loc 1) (og_k 0)) (og_seq (og_putf 2 (og_loc 1) (og_add (og_mul (og_k 256) (og_call m_Tape_at [og_fix (fun _ => 1) (og_loc 0), og_k 0])) (og_call m_Tape_at [og_fix (fun _ => 1) (og_loc 0), og_k 1]))) (og_seq (og_set 2 (og_k 2)) (og_cut (og_seq (og_set 3 (og_k 0)) (og_while (og_cc og_rlt (og_loc 3) (og_get 0 (og_loc 1))) (og_seq (og_ast 6 (og_fix (fun i => i + 2) (og_loc 1)) (og_loc 3) (og_call m_Tape_at [og_fix (fun _ => 1) (og_loc 0), og_loc 2])) (og_seq (og_ast 6 (og_fix (fun i => i + 3) (og_loc 1)) (og_loc 3) (og_call m_Tape_at [og_fix (fun _ => 1) (og_loc 0), og_add (og_loc 2) (og_k 1)])) (og_seq (og_set 4 (og_call m_Tape_at [og_fix (fun _ => 1) (og_loc 0), og_add (og_loc 2) (og_k 2)])) (og_seq (og_ast 6 (og_fix (fun i => i + 4) (og_loc 1)) (og_loc 3) (og_ei (og_cc og_req (og_loc 4) (og_k 255)) (og_k (-1)) (og_loc 4))) (og_inc 2 3))))) (og_inc 3 1))) (og_cut (og_seq (og_set 3 (og_k 0)) (og_while (og_cc og_rlt (og_loc 3) (og_get 1 (og_loc 1))) (og_seq (og_ast 8 (og_fix (fun i => i + 8) (og_loc 1)) (og_loc 3) (og_call m_Tape_at [og_fix (fun _ => 1) (og_loc 0), og_loc 2])) (og_seq (og_ast 8 (og_fix (fun i => i + 6) (og_loc 1)) (og_loc 3) (og_call m_Tape_at [og_fix (fun _ => 1) (og_loc 0), og_add (og_loc 2) (og_k 1)])) (og_seq (og_ast 8 (og_fix (fun i => i + 7) (og_loc 1)) (og_loc 3) (og_call m_Tape_at [og_fix (fun _ => 1) (og_loc 0), og_add (og_loc 2) (og_k 2)])) (og_inc 2 3)))) (og_inc 3 1))) (og_retz (og_call m_Yard_isSound [og_loc 1]))))))))
set_option maxRecDepth 20000 in
theorem ok_OG_readImage : og_MOK og_y_OG_readImage og_c_OG_readImage 5 3 5 [5, 16] m_OG_readImage := og_method (b := 0) (lt' := []) (by decide +kernel) (by decide) (by decide) (og_sseq (og_callVv (og_acons (og_aload_n (i := 1) (t := 14) (j := 1) (by rfl) (by rfl) d_OG_readImage_0) (og_acons (og_f_OG_now (og_aload_n (i := 0) (t := 3) (j := 0) (by rfl) (by rfl) d_OG_readImage_1) og_w397 d_OG_readImage_2) (og_anil))) ok_Yard_become (v_Yard_become (by decide)) og_w669 d_OG_readImage_5) (og_sseq (og_p_Yard_keptRows_N (og_aload_n (i := 1) (t := 14) (j := 1) (by rfl) (by rfl) d_OG_readImage_8) (og_iconst (by decide) d_OG_readImage_9) og_w60 d_OG_readImage_10) (og_sseq (og_p_Yard_month_N (og_aload_n (i := 1) (t := 14) (j := 1) (by rfl) (by rfl) d_OG_readImage_13) (og_iadd (og_imul (og_sipush (by decide) d_OG_readImage_14) (og_callVi (og_acons (og_f_OG_tape (og_aload_n (i := 0) (t := 3) (j := 0) (by rfl) (by rfl) d_OG_readImage_17) og_w389 d_OG_readImage_18) (og_acons (og_iconst (by decide) d_OG_readImage_21) (og_anil))) (by decide) ok_Tape_at (v_Tape_at (by decide)) og_w975 d_OG_readImage_22) d_OG_readImage_25) (og_callVi (og_acons (og_f_OG_tape (og_aload_n (i := 0) (t := 3) (j := 0) (by rfl) (by rfl) d_OG_readImage_26) og_w389 d_OG_readImage_27) (og_acons (og_iconst (by decide) d_OG_readImage_30) (og_anil))) (by decide) ok_Tape_at (v_Tape_at (by decide)) og_w975 d_OG_readImage_31) d_OG_readImage_34) og_w58 d_OG_readImage_35) (og_sseq (og_istore_n (i := 2) (lt' := [(0, 5), (1, 16), (2, 0)]) (og_iconst (by decide) d_OG_readImage_38) (by rfl) (by decide) (by decide) d_OG_readImage_39) (og_scut (og_sdrop (lt' := [(0, 5), (1, 16), (2, 0), (3, 0)]) (lt2 := [(0, 5), (1, 16), (2, 0)]) (og_sseq (og_istore_n (i := 3) (lt' := [(0, 5), (1, 16), (2, 0), (3, 0)]) (og_iconst (by decide) d_OG_readImage_40) (by rfl) (by decide) (by decide) d_OG_readImage_41) (og_swhile (T := 50) (F := 121) (cp0 := 115) (og_ccn og_n_lt (og_ige (tgt := 121) (og_iload_n (i := 3) (j := 3) (by rfl) (by rfl) d_OG_readImage_42) (og_f_Yard_graves_N (og_aload_n (i := 1) (t := 14) (j := 1) (by rfl) (by rfl) d_OG_readImage_43) og_w47 d_OG_readImage_44) d_OG_readImage_47 (by decide))) (og_sdrop (lt' := [(0, 5), (1, 16), (2, 0), (3, 0), (4, 0)]) (lt2 := [(0, 5), (1, 16), (2, 0), (3, 0)]) (og_sseq (og_iastore (N := 6) (og_f_Yard_deep_N (og_aload_n (i := 1) (t := 14) (j := 1) (by rfl) (by rfl) d_OG_readImage_50) og_w68 d_OG_readImage_51) (by rfl) (og_iload_n (i := 3) (j := 3) (by rfl) (by rfl) d_OG_readImage_54) (og_callVi (og_acons (og_f_OG_tape (og_aload_n (i := 0) (t := 3) (j := 0) (by rfl) (by rfl) d_OG_readImage_55) og_w389 d_OG_readImage_56) (og_acons (og_iload_n (i := 2) (j := 2) (by rfl) (by rfl) d_OG_readImage_59) (og_anil))) (by decide) ok_Tape_at (v_Tape_at (by decide)) og_w975 d_OG_readImage_60) d_OG_readImage_63) (og_sseq (og_iastore (N := 6) (og_f_Yard_due_N (og_aload_n (i := 1) (t := 14) (j := 1) (by rfl) (by rfl) d_OG_readImage_64) og_w73 d_OG_readImage_65) (by rfl) (og_iload_n (i := 3) (j := 3) (by rfl) (by rfl) d_OG_readImage_68) (og_callVi (og_acons (og_f_OG_tape (og_aload_n (i := 0) (t := 3) (j := 0) (by rfl) (by rfl) d_OG_readImage_69) og_w389 d_OG_readImage_70) (og_acons (og_iadd (og_iload_n (i := 2) (j := 2) (by rfl) (by rfl) d_OG_readImage_73) (og_iconst (by decide) d_OG_readImage_74) d_OG_readImage_75) (og_anil))) (by decide) ok_Tape_at (v_Tape_at (by decide)) og_w975 d_OG_readImage_76) d_OG_readImage_79) (og_sseq (og_istore (i := 4) (lt' := [(0, 5), (1, 16), (2, 0), (3, 0), (4, 0)]) (og_callVi (og_acons (og_f_OG_tape (og_aload_n (i := 0) (t := 3) (j := 0) (by rfl) (by rfl) d_OG_readImage_80) og_w389 d_OG_readImage_81) (og_acons (og_iadd (og_iload_n (i := 2) (j := 2) (by rfl) (by rfl) d_OG_readImage_84) (og_iconst (by decide) d_OG_readImage_85) d_OG_readImage_86) (og_anil))) (by decide) ok_Tape_at (v_Tape_at (by decide)) og_w975 d_OG_readImage_87) (by decide) (by decide) d_OG_readImage_90) (og_sseq (og_iastore (N := 6) (og_f_Yard_who_N (og_aload_n (i := 1) (t := 14) (j := 1) (by rfl) (by rfl) d_OG_readImage_92) og_w76 d_OG_readImage_93) (by rfl) (og_iload_n (i := 3) (j := 3) (by rfl) (by rfl) d_OG_readImage_96) (og_eite (og_ccn og_n_eq (og_ine (tgt := 109) (og_iload (i := 4) (j := 4) (by rfl) d_OG_readImage_97) (og_sipush (by decide) d_OG_readImage_99) d_OG_readImage_102 (by decide))) (og_iconst (by decide) d_OG_readImage_105) d_OG_readImage_106 (by decide) (og_iload (i := 4) (j := 4) (by rfl) d_OG_readImage_109)) d_OG_readImage_111) (og_iinc (j := 2) (lt' := [(0, 5), (1, 16), (2, 0), (3, 0), (4, 0)]) (by rfl) (by decide) (by decide) d_OG_readImage_112))))) (by decide)) (og_gS (b' := 42) (og_iinc (j := 3) (lt' := [(0, 5), (1, 16), (2, 0), (3, 0)]) (by rfl) (by decide) (by decide) d_OG_readImage_115) d_OG_readImage_118 (by decide)))) (by decide)) (og_scut (og_sdrop (lt' := [(0, 5), (1, 16), (2, 0), (3, 0)]) (lt2 := [(0, 5), (1, 16), (2, 0)]) (og_sseq (og_istore_n (i := 3) (lt' := [(0, 5), (1, 16), (2, 0), (3, 0)]) (og_iconst (by decide) d_OG_readImage_121) (by rfl) (by decide) (by decide) d_OG_readImage_122) (og_swhile (T := 131) (F := 186) (cp0 := 180) (og_ccn og_n_lt (og_ige (tgt := 186) (og_iload_n (i := 3) (j := 3) (by rfl) (by rfl) d_OG_readImage_123) (og_f_Yard_people_N (og_aload_n (i := 1) (t := 14) (j := 1) (by rfl) (by rfl) d_OG_readImage_124) og_w52 d_OG_readImage_125) d_OG_readImage_128 (by decide))) (og_sseq (og_iastore (N := 8) (og_f_Yard_alive_N (og_aload_n (i := 1) (t := 14) (j := 1) (by rfl) (by rfl) d_OG_readImage_131) og_w95 d_OG_readImage_132) (by rfl) (og_iload_n (i := 3) (j := 3) (by rfl) (by rfl) d_OG_readImage_135) (og_callVi (og_acons (og_f_OG_tape (og_aload_n (i := 0) (t := 3) (j := 0) (by rfl) (by rfl) d_OG_readImage_136) og_w389 d_OG_readImage_137) (og_acons (og_iload_n (i := 2) (j := 2) (by rfl) (by rfl) d_OG_readImage_140) (og_anil))) (by decide) ok_Tape_at (v_Tape_at (by decide)) og_w975 d_OG_readImage_141) d_OG_readImage_144) (og_sseq (og_iastore (N := 8) (og_f_Yard_age_N (og_aload_n (i := 1) (t := 14) (j := 1) (by rfl) (by rfl) d_OG_readImage_145) og_w85 d_OG_readImage_146) (by rfl) (og_iload_n (i := 3) (j := 3) (by rfl) (by rfl) d_OG_readImage_149) (og_callVi (og_acons (og_f_OG_tape (og_aload_n (i := 0) (t := 3) (j := 0) (by rfl) (by rfl) d_OG_readImage_150) og_w389 d_OG_readImage_151) (og_acons (og_iadd (og_iload_n (i := 2) (j := 2) (by rfl) (by rfl) d_OG_readImage_154) (og_iconst (by decide) d_OG_readImage_155) d_OG_readImage_156) (og_anil))) (by decide) ok_Tape_at (v_Tape_at (by decide)) og_w975 d_OG_readImage_157) d_OG_readImage_160) (og_sseq (og_iastore (N := 8) (og_f_Yard_will_N (og_aload_n (i := 1) (t := 14) (j := 1) (by rfl) (by rfl) d_OG_readImage_161) og_w91 d_OG_readImage_162) (by rfl) (og_iload_n (i := 3) (j := 3) (by rfl) (by rfl) d_OG_readImage_165) (og_callVi (og_acons (og_f_OG_tape (og_aload_n (i := 0) (t := 3) (j := 0) (by rfl) (by rfl) d_OG_readImage_166) og_w389 d_OG_readImage_167) (og_acons (og_iadd (og_iload_n (i := 2) (j := 2) (by rfl) (by rfl) d_OG_readImage_170) (og_iconst (by decide) d_OG_readImage_171) d_OG_readImage_172) (og_anil))) (by decide) ok_Tape_at (v_Tape_at (by decide)) og_w975 d_OG_readImage_173) d_OG_readImage_176) (og_iinc (j := 2) (lt' := [(0, 5), (1, 16), (2, 0), (3, 0)]) (by rfl) (by decide) (by decide) d_OG_readImage_177)))) (og_gS (b' := 123) (og_iinc (j := 3) (lt' := [(0, 5), (1, 16), (2, 0), (3, 0)]) (by rfl) (by decide) (by decide) d_OG_readImage_180) d_OG_readImage_183 (by decide)))) (by decide)) (og_sretz (og_callVz (og_acons (og_aload_n (i := 1) (t := 14) (j := 1) (by rfl) (by rfl) d_OG_readImage_186) (og_anil)) (by decide) ok_Yard_isSound (v_Yard_isSound (by decide)) og_w1124 d_OG_readImage_187) d_OG_readImage_190))))))) (fun h => by cases h)
abbrev og_c_OG_on : ByteArray := prog_1_method_33_code
abbrev og_y_OG_on : MethodName := ⟨"OpenGraves", "on", "()Z"⟩
theorem v_OG_on {own : String} {idx dep : Nat} (h : 6 + 1 ≤ dep) : og_sV own idx og_y_OG_on og_c_OG_on 3 3 6 dep 1 0 := ⟨⟨0, og_sl_OG, og_T_OG, 17, rfl, by decide, rfl⟩, og_w1113, og_w1114, og_w1, og_w1115, ⟨by decide +kernel, by decide +kernel, by decide +kernel⟩, h, by decide⟩
theorem d_OG_on_0 : decode og_c_OG_on 0 = .ok (.aload_n 0, 1) := by decide +kernel
theorem d_OG_on_1 : decode og_c_OG_on 1 = .ok (.getfield 69, 3) := by decide +kernel
theorem d_OG_on_4 : decode og_c_OG_on 4 = .ok (.getfield 233, 3) := by decide +kernel
theorem d_OG_on_7 : decode og_c_OG_on 7 = .ok (.astore_n 1, 1) := by decide +kernel
theorem d_OG_on_8 : decode og_c_OG_on 8 = .ok (.aload_n 0, 1) := by decide +kernel
theorem d_OG_on_9 : decode og_c_OG_on 9 = .ok (.invokevirtual 353, 3) := by decide +kernel
theorem d_OG_on_12 : decode og_c_OG_on 12 = .ok (.ifCond .eq 15, 3) := by decide +kernel
theorem d_OG_on_15 : decode og_c_OG_on 15 = .ok (.aload_n 0, 1) := by decide +kernel
theorem d_OG_on_16 : decode og_c_OG_on 16 = .ok (.aload_n 1, 1) := by decide +kernel
theorem d_OG_on_17 : decode og_c_OG_on 17 = .ok (.invokevirtual 357, 3) := by decide +kernel
theorem d_OG_on_20 : decode og_c_OG_on 20 = .ok (.ifCond .eq 7, 3) := by decide +kernel
theorem d_OG_on_23 : decode og_c_OG_on 23 = .ok (.iconst 1, 1) := by decide +kernel
theorem d_OG_on_24 : decode og_c_OG_on 24 = .ok (.goto 4, 3) := by decide +kernel
theorem d_OG_on_27 : decode og_c_OG_on 27 = .ok (.iconst 0, 1) := by decide +kernel
theorem d_OG_on_28 : decode og_c_OG_on 28 = .ok (.istore_n 2, 1) := by decide +kernel
theorem d_OG_on_29 : decode og_c_OG_on 29 = .ok (.aload_n 0, 1) := by decide +kernel
theorem d_OG_on_30 : decode og_c_OG_on 30 = .ok (.getfield 22, 3) := by decide +kernel
theorem d_OG_on_33 : decode og_c_OG_on 33 = .ok (.iconst 0, 1) := by decide +kernel
theorem d_OG_on_34 : decode og_c_OG_on 34 = .ok (.putfield 108, 3) := by decide +kernel
theorem d_OG_on_37 : decode og_c_OG_on 37 = .ok (.iload_n 2, 1) := by decide +kernel
theorem d_OG_on_38 : decode og_c_OG_on 38 = .ok (.ifCond .ne 11, 3) := by decide +kernel
theorem d_OG_on_41 : decode og_c_OG_on 41 = .ok (.aload_n 0, 1) := by decide +kernel
theorem d_OG_on_42 : decode og_c_OG_on 42 = .ok (.iconst 5, 1) := by decide +kernel
theorem d_OG_on_43 : decode og_c_OG_on 43 = .ok (.invokevirtual 111, 3) := by decide +kernel
theorem d_OG_on_46 : decode og_c_OG_on 46 = .ok (.pop, 1) := by decide +kernel
theorem d_OG_on_47 : decode og_c_OG_on 47 = .ok (.iconst 0, 1) := by decide +kernel
theorem d_OG_on_48 : decode og_c_OG_on 48 = .ok (.ireturn, 1) := by decide +kernel
theorem d_OG_on_49 : decode og_c_OG_on 49 = .ok (.aload_n 0, 1) := by decide +kernel
theorem d_OG_on_50 : decode og_c_OG_on 50 = .ok (.getfield 90, 3) := by decide +kernel
theorem d_OG_on_53 : decode og_c_OG_on 53 = .ok (.aload_n 1, 1) := by decide +kernel
theorem d_OG_on_54 : decode og_c_OG_on 54 = .ok (.invokevirtual 129, 3) := by decide +kernel
theorem d_OG_on_57 : decode og_c_OG_on 57 = .ok (.aload_n 0, 1) := by decide +kernel
theorem d_OG_on_58 : decode og_c_OG_on 58 = .ok (.getfield 83, 3) := by decide +kernel
theorem d_OG_on_61 : decode og_c_OG_on 61 = .ok (.invokevirtual 133, 3) := by decide +kernel
theorem d_OG_on_64 : decode og_c_OG_on 64 = .ok (.iconst 1, 1) := by decide +kernel
theorem d_OG_on_65 : decode og_c_OG_on 65 = .ok (.ireturn, 1) := by decide +kernel
def m_OG_on : og_Dn := og_den [5] 3 3 (og_seq (og_set 1 (og_fix (fun _ => 110) (og_fix (fun _ => 10) (og_loc 0)))) (og_seq (og_set 2 (og_ec (og_and (og_cb (og_call m_OG_isImage [og_loc 0])) (og_cb (og_call m_OG_readImage [og_loc 0, og_loc 1]))))) (og_seq (og_putf 1 (og_fix (fun _ => 1) (og_loc 0)) (og_k 0)) (og_seq (og_if (og_not (og_cb (og_loc 2))) (og_seq (og_exp (og_call m_OG_refuse [og_loc 0, og_k 5])) (og_retz (og_k 0))) (og_skip)) (og_seq (og_exp (og_call m_Yard_become [og_fix (fun _ => 100) (og_loc 0), og_loc 1])) (og_seq (og_exp (og_call m_Past_forget [og_fix (fun _ => 20) (og_loc 0)])) (og_retz (og_k 1))))))))
set_option maxRecDepth 20000 in
theorem ok_OG_on : og_MOK og_y_OG_on og_c_OG_on 3 3 6 [5] m_OG_on := og_method (b := 0) (lt' := []) (by decide +kernel) (by decide) (by decide) (og_sseq (og_astore_n (i := 1) (lt' := [(0, 5), (1, 16)]) (og_f_Outlook_trial_N (og_f_OG_outlook (og_aload_n (i := 0) (t := 3) (j := 0) (by rfl) (by rfl) d_OG_on_0) og_w394 d_OG_on_1) og_w320 d_OG_on_4) (by rfl) (by decide) (by decide) d_OG_on_7) (og_sseq (og_istore_n (i := 2) (lt' := [(0, 5), (1, 16), (2, 0)]) (og_econd (b := 0) (og_cand (og_cbeq (tgt := 27) (og_callVz (og_acons (og_aload_n (i := 0) (t := 3) (j := 0) (by rfl) (by rfl) d_OG_on_8) (og_anil)) (by decide) ok_OG_isImage (v_OG_isImage (by decide)) og_w1116 d_OG_on_9) d_OG_on_12 (by decide)) (og_cbeq (tgt := 27) (og_callVz (og_acons (og_aload_n (i := 0) (t := 3) (j := 0) (by rfl) (by rfl) d_OG_on_15) (og_acons (og_aload_n (i := 1) (t := 14) (j := 1) (by rfl) (by rfl) d_OG_on_16) (og_anil))) (by decide) ok_OG_readImage (v_OG_readImage (by decide)) og_w1120 d_OG_on_17) d_OG_on_20 (by decide))) d_OG_on_23 d_OG_on_24 (by decide) d_OG_on_27 (by rfl)) (by rfl) (by decide) (by decide) d_OG_on_28) (og_sseq (og_p_Tape_size_N (og_f_OG_tape (og_aload_n (i := 0) (t := 3) (j := 0) (by rfl) (by rfl) d_OG_on_29) og_w389 d_OG_on_30) (og_iconst (by decide) d_OG_on_33) og_w167 d_OG_on_34) (og_sseq (og_sif (T := 41) (F := 49) (og_cnot (og_cbne (tgt := 49) (og_iload_n (i := 2) (j := 2) (by rfl) (by rfl) d_OG_on_37) d_OG_on_38 (by decide))) (og_sseq (og_spop (og_callVi (og_acons (og_aload_n (i := 0) (t := 3) (j := 0) (by rfl) (by rfl) d_OG_on_41) (og_acons (og_iconst (by decide) d_OG_on_42) (og_anil))) (by decide) ok_OG_refuse (v_OG_refuse (by decide)) og_w445 d_OG_on_43) d_OG_on_46) (og_sretz (og_iconst (by decide) d_OG_on_47) d_OG_on_48)) (og_sskip)) (og_sseq (og_callVv (og_acons (og_f_OG_now (og_aload_n (i := 0) (t := 3) (j := 0) (by rfl) (by rfl) d_OG_on_49) og_w397 d_OG_on_50) (og_acons (og_aload_n (i := 1) (t := 14) (j := 1) (by rfl) (by rfl) d_OG_on_53) (og_anil))) ok_Yard_become (v_Yard_become (by decide)) og_w669 d_OG_on_54) (og_sseq (og_callVv (og_acons (og_f_OG_past (og_aload_n (i := 0) (t := 3) (j := 0) (by rfl) (by rfl) d_OG_on_57) og_w396 d_OG_on_58) (og_anil)) ok_Past_forget (v_Past_forget (by decide)) og_w676 d_OG_on_61) (og_sretz (og_iconst (by decide) d_OG_on_64) d_OG_on_65))))))) (fun h => by cases h)
abbrev og_c_OG_status : ByteArray := prog_1_method_34_code
abbrev og_y_OG_status : MethodName := ⟨"OpenGraves", "status", "(I)I"⟩
theorem v_OG_status {own : String} {idx dep : Nat} (h : 1 + 1 ≤ dep) : og_sV own idx og_y_OG_status og_c_OG_status 2 0 1 dep 1 1 := ⟨⟨0, og_sl_OG, og_T_OG, 17, rfl, by decide, rfl⟩, og_w1134, og_w1135, og_w1, og_w1136, ⟨by decide +kernel, by decide +kernel, by decide +kernel⟩, h, by decide⟩
theorem d_OG_status_0 : decode og_c_OG_status 0 = .ok (.iload_n 1, 1) := by decide +kernel
theorem d_OG_status_1 : decode og_c_OG_status 1 = .ok (.ifCond .lt 21, 3) := by decide +kernel
theorem d_OG_status_4 : decode og_c_OG_status 4 = .ok (.iload_n 1, 1) := by decide +kernel
theorem d_OG_status_5 : decode og_c_OG_status 5 = .ok (.aload_n 0, 1) := by decide +kernel
theorem d_OG_status_6 : decode og_c_OG_status 6 = .ok (.getfield 94, 3) := by decide +kernel
theorem d_OG_status_9 : decode og_c_OG_status 9 = .ok (.arraylength, 1) := by decide +kernel
theorem d_OG_status_10 : decode og_c_OG_status 10 = .ok (.if_icmp .ge 12, 3) := by decide +kernel
theorem d_OG_status_13 : decode og_c_OG_status 13 = .ok (.aload_n 0, 1) := by decide +kernel
theorem d_OG_status_14 : decode og_c_OG_status 14 = .ok (.getfield 94, 3) := by decide +kernel
theorem d_OG_status_17 : decode og_c_OG_status 17 = .ok (.iload_n 1, 1) := by decide +kernel
theorem d_OG_status_18 : decode og_c_OG_status 18 = .ok (.iaload, 1) := by decide +kernel
theorem d_OG_status_19 : decode og_c_OG_status 19 = .ok (.goto 4, 3) := by decide +kernel
theorem d_OG_status_22 : decode og_c_OG_status 22 = .ok (.iconst (-1), 1) := by decide +kernel
theorem d_OG_status_23 : decode og_c_OG_status 23 = .ok (.ireturn, 1) := by decide +kernel
def m_OG_status : og_Dn := og_den [5, 0] 2 0 (og_ret (og_ei (og_and (og_cc og_rge (og_loc 1) (og_k 0)) (og_cc og_rlt (og_loc 1) (og_len 6 (og_fix (fun _ => 22) (og_loc 0))))) (og_ald 6 (og_fix (fun _ => 22) (og_loc 0)) (og_loc 1)) (og_k (-1))))
set_option maxRecDepth 20000 in
theorem ok_OG_status : og_MOK og_y_OG_status og_c_OG_status 2 0 1 [5, 0] m_OG_status := og_method (b := 0) (lt' := []) (by decide +kernel) (by decide) (by decide) (og_sreti (og_eite (og_cand (og_ccn og_n_ge (og_zlt (tgt := 22) (og_iload_n (i := 1) (j := 1) (by rfl) (by rfl) d_OG_status_0) d_OG_status_1 (by decide))) (og_ccn og_n_lt (og_ige (tgt := 22) (og_iload_n (i := 1) (j := 1) (by rfl) (by rfl) d_OG_status_4) (og_alen (N := 6) (et := 0) (og_f_OG_refused (og_aload_n (i := 0) (t := 3) (j := 0) (by rfl) (by rfl) d_OG_status_5) og_w398 d_OG_status_6) (by rfl) (by decide) d_OG_status_9) d_OG_status_10 (by decide)))) (og_iald (N := 6) (og_f_OG_refused (og_aload_n (i := 0) (t := 3) (j := 0) (by rfl) (by rfl) d_OG_status_13) og_w398 d_OG_status_14) (by rfl) (og_iload_n (i := 1) (j := 1) (by rfl) (by rfl) d_OG_status_17) d_OG_status_18) d_OG_status_19 (by decide) (og_iconst (by decide) d_OG_status_22)) d_OG_status_23) (fun h => by cases h)
