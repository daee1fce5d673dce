abbrev og_c_Model_months : ByteArray := prog_14_method_98_code
abbrev og_y_Model_months : MethodName := ⟨"OpenGravesModel", "months", "(I)I"⟩
theorem v_Model_months {own : String} {idx dep : Nat} (h : 10 + 1 ≤ dep) : og_sV own idx og_y_Model_months og_c_Model_months 2 0 10 dep 13 1 := ⟨⟨12, og_sl_Model, og_T_Model, 102, rfl, by decide, rfl⟩, og_w1937, og_w1938, og_w17, og_w1939, ⟨by decide +kernel, by decide +kernel, by decide +kernel⟩, h, by decide⟩
theorem d_Model_months_0 : decode og_c_Model_months 0 = .ok (.aload_n 0, 1) := by decide +kernel
theorem d_Model_months_1 : decode og_c_Model_months 1 = .ok (.iload_n 1, 1) := by decide +kernel
theorem d_Model_months_2 : decode og_c_Model_months 2 = .ok (.iconst 1, 1) := by decide +kernel
theorem d_Model_months_3 : decode og_c_Model_months 3 = .ok (.bipush 100, 2) := by decide +kernel
theorem d_Model_months_5 : decode og_c_Model_months 5 = .ok (.invokevirtual 505, 3) := by decide +kernel
theorem d_Model_months_8 : decode og_c_Model_months 8 = .ok (.ifCond .ne 9, 3) := by decide +kernel
theorem d_Model_months_11 : decode og_c_Model_months 11 = .ok (.aload_n 0, 1) := by decide +kernel
theorem d_Model_months_12 : decode og_c_Model_months 12 = .ok (.iconst 3, 1) := by decide +kernel
theorem d_Model_months_13 : decode og_c_Model_months 13 = .ok (.invokevirtual 551, 3) := by decide +kernel
theorem d_Model_months_16 : decode og_c_Model_months 16 = .ok (.ireturn, 1) := by decide +kernel
theorem d_Model_months_17 : decode og_c_Model_months 17 = .ok (.aload_n 0, 1) := by decide +kernel
theorem d_Model_months_18 : decode og_c_Model_months 18 = .ok (.invokevirtual 571, 3) := by decide +kernel
theorem d_Model_months_21 : decode og_c_Model_months 21 = .ok (.aload_n 0, 1) := by decide +kernel
theorem d_Model_months_22 : decode og_c_Model_months 22 = .ok (.iload_n 1, 1) := by decide +kernel
theorem d_Model_months_23 : decode og_c_Model_months 23 = .ok (.invokevirtual 511, 3) := by decide +kernel
theorem d_Model_months_26 : decode og_c_Model_months 26 = .ok (.aload_n 0, 1) := by decide +kernel
theorem d_Model_months_27 : decode og_c_Model_months 27 = .ok (.getfield 465, 3) := by decide +kernel
theorem d_Model_months_30 : decode og_c_Model_months 30 = .ok (.ireturn, 1) := by decide +kernel
def m_Model_months : og_Dn := og_den [17, 0] 2 0 (og_seq (og_if (og_not (og_cb (og_call m_Model_isAhead [og_loc 0, og_loc 1, og_k 1, og_k 100]))) (og_ret (og_call m_Model_refuses [og_loc 0, og_k 3])) (og_skip)) (og_seq (og_exp (og_call m_Model_keeps [og_loc 0])) (og_seq (og_exp (og_call m_Model_monthsGo [og_loc 0, og_loc 1])) (og_ret (og_get 54 (og_loc 0))))))
set_option maxRecDepth 20000 in
theorem ok_Model_months : og_MOK og_y_Model_months og_c_Model_months 2 0 10 [17, 0] m_Model_months := og_method (b := 0) (lt' := []) (by decide +kernel) (by decide) (by decide) (og_sseq (og_sif (T := 11) (F := 17) (og_cnot (og_cbne (tgt := 17) (og_callVz (og_acons (og_aload_n (i := 0) (t := 15) (j := 0) (by rfl) (by rfl) d_Model_months_0) (og_acons (og_iload_n (i := 1) (j := 1) (by rfl) (by rfl) d_Model_months_1) (og_acons (og_iconst (by decide) d_Model_months_2) (og_acons (og_bipush (by decide) d_Model_months_3) (og_anil))))) (by decide) ok_Model_isAhead (v_Model_isAhead (by decide)) og_w1776 d_Model_months_5) d_Model_months_8 (by decide))) (og_sreti (og_callVi (og_acons (og_aload_n (i := 0) (t := 15) (j := 0) (by rfl) (by rfl) d_Model_months_11) (og_acons (og_iconst (by decide) d_Model_months_12) (og_anil))) (by decide) ok_Model_refuses (v_Model_refuses (by decide)) og_w1883 d_Model_months_13) d_Model_months_16) (og_sskip)) (og_sseq (og_callVv (og_acons (og_aload_n (i := 0) (t := 15) (j := 0) (by rfl) (by rfl) d_Model_months_17) (og_anil)) ok_Model_keeps (v_Model_keeps (by decide)) og_w1920 d_Model_months_18) (og_sseq (og_callVv (og_acons (og_aload_n (i := 0) (t := 15) (j := 0) (by rfl) (by rfl) d_Model_months_21) (og_acons (og_iload_n (i := 1) (j := 1) (by rfl) (by rfl) d_Model_months_22) (og_anil))) ok_Model_monthsGo (v_Model_monthsGo (by decide)) og_w1784 d_Model_months_23) (og_sreti (og_f_Model_takenMany (og_aload_n (i := 0) (t := 15) (j := 0) (by rfl) (by rfl) d_Model_months_26) og_w1197 d_Model_months_27) d_Model_months_30)))) (fun h => by cases h)
abbrev og_c_Model_seed : ByteArray := prog_14_method_99_code
abbrev og_y_Model_seed : MethodName := ⟨"OpenGravesModel", "seed", "(I)Z"⟩
theorem v_Model_seed {own : String} {idx dep : Nat} (h : 1 + 1 ≤ dep) : og_sV own idx og_y_Model_seed og_c_Model_seed 2 3 1 dep 13 1 := ⟨⟨12, og_sl_Model, og_T_Model, 102, rfl, by decide, rfl⟩, og_w1941, og_w1942, og_w17, og_w1943, ⟨by decide +kernel, by decide +kernel, by decide +kernel⟩, h, by decide⟩
theorem d_Model_seed_0 : decode og_c_Model_seed 0 = .ok (.iload_n 1, 1) := by decide +kernel
theorem d_Model_seed_1 : decode og_c_Model_seed 1 = .ok (.ifCond .ge 15, 3) := by decide +kernel
theorem d_Model_seed_4 : decode og_c_Model_seed 4 = .ok (.aload_n 0, 1) := by decide +kernel
theorem d_Model_seed_5 : decode og_c_Model_seed 5 = .ok (.getfield 17, 3) := by decide +kernel
theorem d_Model_seed_8 : decode og_c_Model_seed 8 = .ok (.iconst 5, 1) := by decide +kernel
theorem d_Model_seed_9 : decode og_c_Model_seed 9 = .ok (.dup2, 1) := by decide +kernel
theorem d_Model_seed_10 : decode og_c_Model_seed 10 = .ok (.iaload, 1) := by decide +kernel
theorem d_Model_seed_11 : decode og_c_Model_seed 11 = .ok (.iconst 1, 1) := by decide +kernel
theorem d_Model_seed_12 : decode og_c_Model_seed 12 = .ok (.iadd, 1) := by decide +kernel
theorem d_Model_seed_13 : decode og_c_Model_seed 13 = .ok (.iastore, 1) := by decide +kernel
theorem d_Model_seed_14 : decode og_c_Model_seed 14 = .ok (.iconst 0, 1) := by decide +kernel
theorem d_Model_seed_15 : decode og_c_Model_seed 15 = .ok (.ireturn, 1) := by decide +kernel
theorem d_Model_seed_16 : decode og_c_Model_seed 16 = .ok (.aload_n 0, 1) := by decide +kernel
theorem d_Model_seed_17 : decode og_c_Model_seed 17 = .ok (.iload_n 1, 1) := by decide +kernel
theorem d_Model_seed_18 : decode og_c_Model_seed 18 = .ok (.i2l, 1) := by decide +kernel
theorem d_Model_seed_19 : decode og_c_Model_seed 19 = .ok (.putfield 157, 3) := by decide +kernel
theorem d_Model_seed_22 : decode og_c_Model_seed 22 = .ok (.iconst 1, 1) := by decide +kernel
theorem d_Model_seed_23 : decode og_c_Model_seed 23 = .ok (.ireturn, 1) := by decide +kernel
def m_Model_seed : og_Dn := og_den [17, 0] 2 3 (og_seq (og_if (og_cc og_rlt (og_loc 1) (og_k 0)) (og_seq (og_aop og_padd 6 (og_fix (fun _ => 1002) (og_loc 0)) (og_k 5) (og_k 1)) (og_retz (og_k 0))) (og_skip)) (og_seq (og_putf 67 (og_loc 0) (og_i2l (og_loc 1))) (og_retz (og_k 1))))
set_option maxRecDepth 20000 in
theorem ok_Model_seed : og_MOK og_y_Model_seed og_c_Model_seed 2 3 1 [17, 0] m_Model_seed := og_method (b := 0) (lt' := []) (by decide +kernel) (by decide) (by decide) (og_sseq (og_sif (T := 4) (F := 16) (og_ccn og_n_lt (og_zge (tgt := 16) (og_iload_n (i := 1) (j := 1) (by rfl) (by rfl) d_Model_seed_0) d_Model_seed_1 (by decide))) (og_sseq (og_aadd (N := 6) (og_f_Model_refused (og_aload_n (i := 0) (t := 15) (j := 0) (by rfl) (by rfl) d_Model_seed_4) og_w1152 d_Model_seed_5) (by rfl) (og_iconst (by decide) d_Model_seed_8) d_Model_seed_9 d_Model_seed_10 (og_iconst (by decide) d_Model_seed_11) d_Model_seed_12 d_Model_seed_13) (og_sretz (og_iconst (by decide) d_Model_seed_14) d_Model_seed_15)) (og_sskip)) (og_sseq (og_p_Model_seeded (og_aload_n (i := 0) (t := 15) (j := 0) (by rfl) (by rfl) d_Model_seed_16) (og_i2l_ (og_iload_n (i := 1) (j := 1) (by rfl) (by rfl) d_Model_seed_17) d_Model_seed_18) og_w1210 d_Model_seed_19) (og_sretz (og_iconst (by decide) d_Model_seed_22) d_Model_seed_23))) (fun h => by cases h)
abbrev og_c_Model_drawOf : ByteArray := prog_14_method_100_code
abbrev og_y_Model_drawOf : MethodName := ⟨"OpenGravesModel", "drawOf", "(I)I"⟩
theorem v_Model_drawOf {own : String} {idx dep : Nat} (h : 1 + 1 ≤ dep) : og_sV own idx og_y_Model_drawOf og_c_Model_drawOf 2 0 1 dep 13 1 := ⟨⟨12, og_sl_Model, og_T_Model, 102, rfl, by decide, rfl⟩, og_w1950, (og_memP (⟨"OpenGravesModel", "drawOf", "(I)I"⟩, 102) (List.mem_of_getElem? (i := 138) (by decide +kernel))), og_w17, og_w1951, ⟨by decide +kernel, by decide +kernel, by decide +kernel⟩, h, by decide⟩
theorem d_Model_drawOf_0 : decode og_c_Model_drawOf 0 = .ok (.aload_n 0, 1) := by decide +kernel
theorem d_Model_drawOf_1 : decode og_c_Model_drawOf 1 = .ok (.ldc2_w 577, 3) := by decide +kernel
theorem d_Model_drawOf_4 : decode og_c_Model_drawOf 4 = .ok (.aload_n 0, 1) := by decide +kernel
theorem d_Model_drawOf_5 : decode og_c_Model_drawOf 5 = .ok (.getfield 157, 3) := by decide +kernel
theorem d_Model_drawOf_8 : decode og_c_Model_drawOf 8 = .ok (.lmul, 1) := by decide +kernel
theorem d_Model_drawOf_9 : decode og_c_Model_drawOf 9 = .ok (.ldc2_w 579, 3) := by decide +kernel
theorem d_Model_drawOf_12 : decode og_c_Model_drawOf 12 = .ok (.ladd, 1) := by decide +kernel
theorem d_Model_drawOf_13 : decode og_c_Model_drawOf 13 = .ok (.ldc2_w 581, 3) := by decide +kernel
theorem d_Model_drawOf_16 : decode og_c_Model_drawOf 16 = .ok (.lrem, 1) := by decide +kernel
theorem d_Model_drawOf_17 : decode og_c_Model_drawOf 17 = .ok (.putfield 157, 3) := by decide +kernel
theorem d_Model_drawOf_20 : decode og_c_Model_drawOf 20 = .ok (.aload_n 0, 1) := by decide +kernel
theorem d_Model_drawOf_21 : decode og_c_Model_drawOf 21 = .ok (.getfield 157, 3) := by decide +kernel
theorem d_Model_drawOf_24 : decode og_c_Model_drawOf 24 = .ok (.ldc2_w 583, 3) := by decide +kernel
theorem d_Model_drawOf_27 : decode og_c_Model_drawOf 27 = .ok (.ldiv, 1) := by decide +kernel
theorem d_Model_drawOf_28 : decode og_c_Model_drawOf 28 = .ok (.iload_n 1, 1) := by decide +kernel
theorem d_Model_drawOf_29 : decode og_c_Model_drawOf 29 = .ok (.i2l, 1) := by decide +kernel
theorem d_Model_drawOf_30 : decode og_c_Model_drawOf 30 = .ok (.lrem, 1) := by decide +kernel
theorem d_Model_drawOf_31 : decode og_c_Model_drawOf 31 = .ok (.l2i, 1) := by decide +kernel
theorem d_Model_drawOf_32 : decode og_c_Model_drawOf 32 = .ok (.ireturn, 1) := by decide +kernel
def m_Model_drawOf : og_Dn := og_den [17, 0] 2 0 (og_seq (og_putf 67 (og_loc 0) (og_lrem (og_ladd (og_lmul (og_k 1103515245) (og_get 67 (og_loc 0))) (og_k 12345)) (og_k 2147483648))) (og_ret (og_l2i (og_lrem (og_ldiv (og_get 67 (og_loc 0)) (og_k 64)) (og_i2l (og_loc 1))))))
set_option maxRecDepth 20000 in
theorem ok_Model_drawOf : og_MOK og_y_Model_drawOf og_c_Model_drawOf 2 0 1 [17, 0] m_Model_drawOf := og_method (b := 0) (lt' := []) (by decide +kernel) (by decide) (by decide) (og_sseq (og_p_Model_seeded (og_aload_n (i := 0) (t := 15) (j := 0) (by rfl) (by rfl) d_Model_drawOf_0) (og_lrem_ (og_ladd_ (og_lmul_ (og_ldc2 (x := 1103515245) (by decide) og_w1952 d_Model_drawOf_1) (og_f_Model_seeded (og_aload_n (i := 0) (t := 15) (j := 0) (by rfl) (by rfl) d_Model_drawOf_4) og_w1210 d_Model_drawOf_5) d_Model_drawOf_8) (og_ldc2 (x := 12345) (by decide) og_w1953 d_Model_drawOf_9) d_Model_drawOf_12) (og_ldc2 (x := 2147483648) (by decide) og_w1954 d_Model_drawOf_13) d_Model_drawOf_16) og_w1210 d_Model_drawOf_17) (og_sreti (og_l2i_ (og_lrem_ (og_ldiv_ (og_f_Model_seeded (og_aload_n (i := 0) (t := 15) (j := 0) (by rfl) (by rfl) d_Model_drawOf_20) og_w1210 d_Model_drawOf_21) (og_ldc2 (x := 64) (by decide) og_w1955 d_Model_drawOf_24) d_Model_drawOf_27) (og_i2l_ (og_iload_n (i := 1) (j := 1) (by rfl) (by rfl) d_Model_drawOf_28) d_Model_drawOf_29) d_Model_drawOf_30) d_Model_drawOf_31) d_Model_drawOf_32)) (fun h => by cases h)
abbrev og_c_Model_chance : ByteArray := prog_14_method_101_code
abbrev og_y_Model_chance : MethodName := ⟨"OpenGravesModel", "chance", "(I)I"⟩
theorem v_Model_chance {own : String} {idx dep : Nat} (h : 9 + 1 ≤ dep) : og_sV own idx og_y_Model_chance og_c_Model_chance 5 0 9 dep 13 1 := ⟨⟨12, og_sl_Model, og_T_Model, 102, rfl, by decide, rfl⟩, og_w1945, og_w1946, og_w17, og_w1947, ⟨by decide +kernel, by decide +kernel, by decide +kernel⟩, h, by decide⟩
theorem d_Model_chance_0 : decode og_c_Model_chance 0 = .ok (.aload_n 0, 1) := by decide +kernel
theorem d_Model_chance_1 : decode og_c_Model_chance 1 = .ok (.iload_n 1, 1) := by decide +kernel
theorem d_Model_chance_2 : decode og_c_Model_chance 2 = .ok (.iconst 1, 1) := by decide +kernel
theorem d_Model_chance_3 : decode og_c_Model_chance 3 = .ok (.bipush 100, 2) := by decide +kernel
theorem d_Model_chance_5 : decode og_c_Model_chance 5 = .ok (.invokevirtual 505, 3) := by decide +kernel
theorem d_Model_chance_8 : decode og_c_Model_chance 8 = .ok (.ifCond .ne 9, 3) := by decide +kernel
theorem d_Model_chance_11 : decode og_c_Model_chance 11 = .ok (.aload_n 0, 1) := by decide +kernel
theorem d_Model_chance_12 : decode og_c_Model_chance 12 = .ok (.iconst 3, 1) := by decide +kernel
theorem d_Model_chance_13 : decode og_c_Model_chance 13 = .ok (.invokevirtual 551, 3) := by decide +kernel
theorem d_Model_chance_16 : decode og_c_Model_chance 16 = .ok (.ireturn, 1) := by decide +kernel
theorem d_Model_chance_17 : decode og_c_Model_chance 17 = .ok (.aload_n 0, 1) := by decide +kernel
theorem d_Model_chance_18 : decode og_c_Model_chance 18 = .ok (.invokevirtual 571, 3) := by decide +kernel
theorem d_Model_chance_21 : decode og_c_Model_chance 21 = .ok (.iconst 0, 1) := by decide +kernel
theorem d_Model_chance_22 : decode og_c_Model_chance 22 = .ok (.istore_n 2, 1) := by decide +kernel
theorem d_Model_chance_23 : decode og_c_Model_chance 23 = .ok (.iconst 0, 1) := by decide +kernel
theorem d_Model_chance_24 : decode og_c_Model_chance 24 = .ok (.istore_n 3, 1) := by decide +kernel
theorem d_Model_chance_25 : decode og_c_Model_chance 25 = .ok (.iload_n 3, 1) := by decide +kernel
theorem d_Model_chance_26 : decode og_c_Model_chance 26 = .ok (.iload_n 1, 1) := by decide +kernel
theorem d_Model_chance_27 : decode og_c_Model_chance 27 = .ok (.if_icmp .ge 74, 3) := by decide +kernel
theorem d_Model_chance_30 : decode og_c_Model_chance 30 = .ok (.iconst 0, 1) := by decide +kernel
theorem d_Model_chance_31 : decode og_c_Model_chance 31 = .ok (.istore 4, 2) := by decide +kernel
theorem d_Model_chance_33 : decode og_c_Model_chance 33 = .ok (.iload 4, 2) := by decide +kernel
theorem d_Model_chance_35 : decode og_c_Model_chance 35 = .ok (.aload_n 0, 1) := by decide +kernel
theorem d_Model_chance_36 : decode og_c_Model_chance 36 = .ok (.invokevirtual 381, 3) := by decide +kernel
theorem d_Model_chance_39 : decode og_c_Model_chance 39 = .ok (.if_icmp .ge 52, 3) := by decide +kernel
theorem d_Model_chance_42 : decode og_c_Model_chance 42 = .ok (.aload_n 0, 1) := by decide +kernel
theorem d_Model_chance_43 : decode og_c_Model_chance 43 = .ok (.iload 4, 2) := by decide +kernel
theorem d_Model_chance_45 : decode og_c_Model_chance 45 = .ok (.invokevirtual 393, 3) := by decide +kernel
theorem d_Model_chance_48 : decode og_c_Model_chance 48 = .ok (.ifCond .eq 37, 3) := by decide +kernel
theorem d_Model_chance_51 : decode og_c_Model_chance 51 = .ok (.aload_n 0, 1) := by decide +kernel
theorem d_Model_chance_52 : decode og_c_Model_chance 52 = .ok (.bipush 100, 2) := by decide +kernel
theorem d_Model_chance_54 : decode og_c_Model_chance 54 = .ok (.invokevirtual 585, 3) := by decide +kernel
theorem d_Model_chance_57 : decode og_c_Model_chance 57 = .ok (.aload_n 0, 1) := by decide +kernel
theorem d_Model_chance_58 : decode og_c_Model_chance 58 = .ok (.iload 4, 2) := by decide +kernel
theorem d_Model_chance_60 : decode og_c_Model_chance 60 = .ok (.invokevirtual 494, 3) := by decide +kernel
theorem d_Model_chance_63 : decode og_c_Model_chance 63 = .ok (.if_icmp .lt 6, 3) := by decide +kernel
theorem d_Model_chance_66 : decode og_c_Model_chance 66 = .ok (.goto 19, 3) := by decide +kernel
theorem d_Model_chance_69 : decode og_c_Model_chance 69 = .ok (.aload_n 0, 1) := by decide +kernel
theorem d_Model_chance_70 : decode og_c_Model_chance 70 = .ok (.iload 4, 2) := by decide +kernel
theorem d_Model_chance_72 : decode og_c_Model_chance 72 = .ok (.aload_n 0, 1) := by decide +kernel
theorem d_Model_chance_73 : decode og_c_Model_chance 73 = .ok (.iload 4, 2) := by decide +kernel
theorem d_Model_chance_75 : decode og_c_Model_chance 75 = .ok (.invokevirtual 445, 3) := by decide +kernel
theorem d_Model_chance_78 : decode og_c_Model_chance 78 = .ok (.iconst 2, 1) := by decide +kernel
theorem d_Model_chance_79 : decode og_c_Model_chance 79 = .ok (.invokevirtual 448, 3) := by decide +kernel
theorem d_Model_chance_82 : decode og_c_Model_chance 82 = .ok (.iinc 2 1, 3) := by decide +kernel
theorem d_Model_chance_85 : decode og_c_Model_chance 85 = .ok (.iinc 4 1, 3) := by decide +kernel
theorem d_Model_chance_88 : decode og_c_Model_chance 88 = .ok (.goto (-55), 3) := by decide +kernel
theorem d_Model_chance_91 : decode og_c_Model_chance 91 = .ok (.aload_n 0, 1) := by decide +kernel
theorem d_Model_chance_92 : decode og_c_Model_chance 92 = .ok (.invokevirtual 468, 3) := by decide +kernel
theorem d_Model_chance_95 : decode og_c_Model_chance 95 = .ok (.iinc 3 1, 3) := by decide +kernel
theorem d_Model_chance_98 : decode og_c_Model_chance 98 = .ok (.goto (-73), 3) := by decide +kernel
theorem d_Model_chance_101 : decode og_c_Model_chance 101 = .ok (.iload_n 2, 1) := by decide +kernel
theorem d_Model_chance_102 : decode og_c_Model_chance 102 = .ok (.ireturn, 1) := by decide +kernel
def m_Model_chance : og_Dn := og_den [17, 0] 5 0 (og_seq (og_if (og_not (og_cb (og_call m_Model_isAhead [og_loc 0, og_loc 1, og_k 1, og_k 100]))) (og_ret (og_call m_Model_refuses [og_loc 0, og_k 3])) (og_skip)) (og_seq (og_exp (og_call m_Model_keeps [og_loc 0])) (og_seq (og_set 2 (og_k 0)) (og_cut (og_seq (og_set 3 (og_k 0)) (og_while (og_cc og_rlt (og_loc 3) (og_loc 1)) (og_cut (og_seq (og_set 4 (og_k 0)) (og_while (og_cc og_rlt (og_loc 4) (og_call m_Model_personMany [og_loc 0])) (og_seq (og_if (og_or (og_not (og_cb (og_call m_Model_isAlive [og_loc 0, og_loc 4]))) (og_cc og_rge (og_call m_Model_drawOf [og_loc 0, og_k 100]) (og_call m_Model_diesOf [og_loc 0, og_loc 4]))) (og_cont) (og_skip)) (og_seq (og_exp (og_call m_Model_goesInto [og_loc 0, og_loc 4, og_call m_Model_nextFor [og_loc 0, og_loc 4], og_k 2])) (og_inc 2 1))) (og_inc 4 1))) (og_exp (og_call m_Model_monthGoes [og_loc 0]))) (og_inc 3 1))) (og_ret (og_loc 2))))))
set_option maxRecDepth 20000 in
theorem ok_Model_chance : og_MOK og_y_Model_chance og_c_Model_chance 5 0 9 [17, 0] m_Model_chance := og_method (b := 0) (lt' := []) (by decide +kernel) (by decide) (by decide) (og_sseq (og_sif (T := 11) (F := 17) (og_cnot (og_cbne (tgt := 17) (og_callVz (og_acons (og_aload_n (i := 0) (t := 15) (j := 0) (by rfl) (by rfl) d_Model_chance_0) (og_acons (og_iload_n (i := 1) (j := 1) (by rfl) (by rfl) d_Model_chance_1) (og_acons (og_iconst (by decide) d_Model_chance_2) (og_acons (og_bipush (by decide) d_Model_chance_3) (og_anil))))) (by decide) ok_Model_isAhead (v_Model_isAhead (by decide)) og_w1776 d_Model_chance_5) d_Model_chance_8 (by decide))) (og_sreti (og_callVi (og_acons (og_aload_n (i := 0) (t := 15) (j := 0) (by rfl) (by rfl) d_Model_chance_11) (og_acons (og_iconst (by decide) d_Model_chance_12) (og_anil))) (by decide) ok_Model_refuses (v_Model_refuses (by decide)) og_w1883 d_Model_chance_13) d_Model_chance_16) (og_sskip)) (og_sseq (og_callVv (og_acons (og_aload_n (i := 0) (t := 15) (j := 0) (by rfl) (by rfl) d_Model_chance_17) (og_anil)) ok_Model_keeps (v_Model_keeps (by decide)) og_w1920 d_Model_chance_18) (og_sseq (og_istore_n (i := 2) (lt' := [(0, 17), (1, 0), (2, 0)]) (og_iconst (by decide) d_Model_chance_21) (by rfl) (by decide) (by decide) d_Model_chance_22) (og_scut (og_sdrop (lt' := [(0, 17), (1, 0), (2, 0), (3, 0)]) (lt2 := [(0, 17), (1, 0), (2, 0)]) (og_sseq (og_istore_n (i := 3) (lt' := [(0, 17), (1, 0), (2, 0), (3, 0)]) (og_iconst (by decide) d_Model_chance_23) (by rfl) (by decide) (by decide) d_Model_chance_24) (og_swhile (T := 30) (F := 101) (cp0 := 95) (og_ccn og_n_lt (og_ige (tgt := 101) (og_iload_n (i := 3) (j := 3) (by rfl) (by rfl) d_Model_chance_25) (og_iload_n (i := 1) (j := 1) (by rfl) (by rfl) d_Model_chance_26) d_Model_chance_27 (by decide))) (og_scut (og_sdrop (lt' := [(0, 17), (1, 0), (2, 0), (3, 0), (4, 0)]) (lt2 := [(0, 17), (1, 0), (2, 0), (3, 0)]) (og_sseq (og_istore (i := 4) (lt' := [(0, 17), (1, 0), (2, 0), (3, 0), (4, 0)]) (og_iconst (by decide) d_Model_chance_30) (by decide) (by decide) d_Model_chance_31) (og_swhile (T := 42) (F := 91) (cp0 := 85) (og_ccn og_n_lt (og_ige (tgt := 91) (og_iload (i := 4) (j := 4) (by rfl) d_Model_chance_33) (og_callVi (og_acons (og_aload_n (i := 0) (t := 15) (j := 0) (by rfl) (by rfl) d_Model_chance_35) (og_anil)) (by decide) ok_Model_personMany (v_Model_personMany (by decide)) og_w1637 d_Model_chance_36) d_Model_chance_39 (by decide))) (og_sseq (og_sif (T := 85) (F := 69) (og_cor (og_cnot (og_cbeq (tgt := 85) (og_callVz (og_acons (og_aload_n (i := 0) (t := 15) (j := 0) (by rfl) (by rfl) d_Model_chance_42) (og_acons (og_iload (i := 4) (j := 4) (by rfl) d_Model_chance_43) (og_anil))) (by decide) ok_Model_isAlive (v_Model_isAlive (by decide)) og_w1641 d_Model_chance_45) d_Model_chance_48 (by decide))) (og_gT (T' := 85) (og_ccn og_n_ge (og_ilt (tgt := 69) (og_callVi (og_acons (og_aload_n (i := 0) (t := 15) (j := 0) (by rfl) (by rfl) d_Model_chance_51) (og_acons (og_bipush (by decide) d_Model_chance_52) (og_anil))) (by decide) ok_Model_drawOf (v_Model_drawOf (by decide)) og_w1948 d_Model_chance_54) (og_callVi (og_acons (og_aload_n (i := 0) (t := 15) (j := 0) (by rfl) (by rfl) d_Model_chance_57) (og_acons (og_iload (i := 4) (j := 4) (by rfl) d_Model_chance_58) (og_anil))) (by decide) ok_Model_diesOf (v_Model_diesOf (by decide)) og_w1707 d_Model_chance_60) d_Model_chance_63 (by decide))) d_Model_chance_66 (by decide))) (og_scont (by decide)) (og_sskip)) (og_sseq (og_callVv (og_acons (og_aload_n (i := 0) (t := 15) (j := 0) (by rfl) (by rfl) d_Model_chance_69) (og_acons (og_iload (i := 4) (j := 4) (by rfl) d_Model_chance_70) (og_acons (og_callVi (og_acons (og_aload_n (i := 0) (t := 15) (j := 0) (by rfl) (by rfl) d_Model_chance_72) (og_acons (og_iload (i := 4) (j := 4) (by rfl) d_Model_chance_73) (og_anil))) (by decide) ok_Model_nextFor (v_Model_nextFor (by decide)) og_w1759 d_Model_chance_75) (og_acons (og_iconst (by decide) d_Model_chance_78) (og_anil))))) ok_Model_goesInto (v_Model_goesInto (by decide)) og_w1800 d_Model_chance_79) (og_iinc (j := 2) (lt' := [(0, 17), (1, 0), (2, 0), (3, 0), (4, 0)]) (by rfl) (by decide) (by decide) d_Model_chance_82))) (og_gS (b' := 33) (og_iinc (j := 4) (lt' := [(0, 17), (1, 0), (2, 0), (3, 0), (4, 0)]) (by rfl) (by decide) (by decide) d_Model_chance_85) d_Model_chance_88 (by decide)))) (by decide)) (og_callVv (og_acons (og_aload_n (i := 0) (t := 15) (j := 0) (by rfl) (by rfl) d_Model_chance_91) (og_anil)) ok_Model_monthGoes (v_Model_monthGoes (by decide)) og_w1788 d_Model_chance_92)) (og_gS (b' := 25) (og_iinc (j := 3) (lt' := [(0, 17), (1, 0), (2, 0), (3, 0)]) (by rfl) (by decide) (by decide) d_Model_chance_95) d_Model_chance_98 (by decide)))) (by decide)) (og_sreti (og_iload_n (i := 2) (j := 2) (by rfl) (by rfl) d_Model_chance_101) d_Model_chance_102))))) (fun h => by cases h)
abbrev og_c_Model_qOf : ByteArray := prog_14_method_126_code
abbrev og_y_Model_qOf : MethodName := ⟨"OpenGravesModel", "qOf", "(IJI)J"⟩
theorem v_Model_qOf {own : String} {idx dep : Nat} (h : 3 + 1 ≤ dep) : og_sV own idx og_y_Model_qOf og_c_Model_qOf 5 1 3 dep 13 3 := ⟨⟨12, og_sl_Model, og_T_Model, 102, rfl, by decide, rfl⟩, og_w1970, (og_memP (⟨"OpenGravesModel", "qOf", "(IJI)J"⟩, 102) (List.mem_of_getElem? (i := 141) (by decide +kernel))), og_w17, og_w1971, ⟨by decide +kernel, by decide +kernel, by decide +kernel⟩, h, by decide⟩
theorem d_Model_qOf_0 : decode og_c_Model_qOf 0 = .ok (.iload_n 1, 1) := by decide +kernel
theorem d_Model_qOf_1 : decode og_c_Model_qOf 1 = .ok (.lookupswitch 44 #[(0, 19)], 19) := by decide +kernel
theorem d_Model_qOf_20 : decode og_c_Model_qOf 20 = .ok (.aload_n 0, 1) := by decide +kernel
theorem d_Model_qOf_21 : decode og_c_Model_qOf 21 = .ok (.lload_n 2, 1) := by decide +kernel
theorem d_Model_qOf_22 : decode og_c_Model_qOf 22 = .ok (.invokevirtual 485, 3) := by decide +kernel
theorem d_Model_qOf_25 : decode og_c_Model_qOf 25 = .ok (.ifCond .eq 18, 3) := by decide +kernel
theorem d_Model_qOf_28 : decode og_c_Model_qOf 28 = .ok (.aload_n 0, 1) := by decide +kernel
theorem d_Model_qOf_29 : decode og_c_Model_qOf 29 = .ok (.iload 4, 2) := by decide +kernel
theorem d_Model_qOf_31 : decode og_c_Model_qOf 31 = .ok (.lload_n 2, 1) := by decide +kernel
theorem d_Model_qOf_32 : decode og_c_Model_qOf 32 = .ok (.l2i, 1) := by decide +kernel
theorem d_Model_qOf_33 : decode og_c_Model_qOf 33 = .ok (.invokevirtual 431, 3) := by decide +kernel
theorem d_Model_qOf_36 : decode og_c_Model_qOf 36 = .ok (.ifCond .eq 7, 3) := by decide +kernel
theorem d_Model_qOf_39 : decode og_c_Model_qOf 39 = .ok (.lconst 1, 1) := by decide +kernel
theorem d_Model_qOf_40 : decode og_c_Model_qOf 40 = .ok (.goto 4, 3) := by decide +kernel
theorem d_Model_qOf_43 : decode og_c_Model_qOf 43 = .ok (.lconst 0, 1) := by decide +kernel
theorem d_Model_qOf_44 : decode og_c_Model_qOf 44 = .ok (.lreturn, 1) := by decide +kernel
theorem d_Model_qOf_45 : decode og_c_Model_qOf 45 = .ok (.aload_n 0, 1) := by decide +kernel
theorem d_Model_qOf_46 : decode og_c_Model_qOf 46 = .ok (.lload_n 2, 1) := by decide +kernel
theorem d_Model_qOf_47 : decode og_c_Model_qOf 47 = .ok (.invokevirtual 485, 3) := by decide +kernel
theorem d_Model_qOf_50 : decode og_c_Model_qOf 50 = .ok (.ifCond .eq 13, 3) := by decide +kernel
theorem d_Model_qOf_53 : decode og_c_Model_qOf 53 = .ok (.aload_n 0, 1) := by decide +kernel
theorem d_Model_qOf_54 : decode og_c_Model_qOf 54 = .ok (.lload_n 2, 1) := by decide +kernel
theorem d_Model_qOf_55 : decode og_c_Model_qOf 55 = .ok (.l2i, 1) := by decide +kernel
theorem d_Model_qOf_56 : decode og_c_Model_qOf 56 = .ok (.invokevirtual 435, 3) := by decide +kernel
theorem d_Model_qOf_59 : decode og_c_Model_qOf 59 = .ok (.i2l, 1) := by decide +kernel
theorem d_Model_qOf_60 : decode og_c_Model_qOf 60 = .ok (.goto 4, 3) := by decide +kernel
theorem d_Model_qOf_63 : decode og_c_Model_qOf 63 = .ok (.lconst 0, 1) := by decide +kernel
theorem d_Model_qOf_64 : decode og_c_Model_qOf 64 = .ok (.lreturn, 1) := by decide +kernel
def m_Model_qOf : og_Dn := og_den [17, 0, 1, 0] 5 1 (og_sw (og_loc 1) (fun x => og_cs x [0] (og_ret (og_ei (og_and (og_cb (og_call m_Model_isGrave [og_loc 0, og_loc 2])) (og_cb (og_call m_Model_doesFit [og_loc 0, og_loc 4, og_l2i (og_loc 2)]))) (og_k 1) (og_k 0))) (og_ret (og_ei (og_cb (og_call m_Model_isGrave [og_loc 0, og_loc 2])) (og_i2l (og_call m_Model_dueOf [og_loc 0, og_l2i (og_loc 2)])) (og_k 0)))))
set_option maxRecDepth 20000 in
theorem ok_Model_qOf : og_MOK og_y_Model_qOf og_c_Model_qOf 5 1 3 [17, 0, 1, 0] m_Model_qOf := og_method (b := 0) (lt' := []) (by decide +kernel) (by decide) (by decide) (og_slook (b1 := 0) (d := 45) (cs := [(0, 20)]) (og_iload_n (i := 1) (j := 1) (by rfl) (by rfl) d_Model_qOf_0) d_Model_qOf_1 (by decide) (by decide) (og_lkeq (by decide)) (fun x => og_scs (fun hx => og_sat (by simp at hx; subst hx; rfl) (og_sretl (og_eite (og_cand (og_cbeq (tgt := 43) (og_callVz (og_acons (og_aload_n (i := 0) (t := 15) (j := 0) (by rfl) (by rfl) d_Model_qOf_20) (og_acons (og_lload_n (i := 2) (j := 2) (by rfl) (by rfl) d_Model_qOf_21) (og_anil))) (by decide) ok_Model_isGrave (v_Model_isGrave (by decide)) og_w1678 d_Model_qOf_22) d_Model_qOf_25 (by decide)) (og_cbeq (tgt := 43) (og_callVz (og_acons (og_aload_n (i := 0) (t := 15) (j := 0) (by rfl) (by rfl) d_Model_qOf_28) (og_acons (og_iload (i := 4) (j := 3) (by rfl) d_Model_qOf_29) (og_acons (og_l2i_ (og_lload_n (i := 2) (j := 2) (by rfl) (by rfl) d_Model_qOf_31) d_Model_qOf_32) (og_anil)))) (by decide) ok_Model_doesFit (v_Model_doesFit (by decide)) og_w1763 d_Model_qOf_33) d_Model_qOf_36 (by decide))) (og_lconst (x := 1) d_Model_qOf_39) d_Model_qOf_40 (by decide) (og_lconst (x := 0) d_Model_qOf_43)) d_Model_qOf_44)) (fun hx => og_sat (og_lkn (by simp_all)) (og_sretl (og_eite (og_cbeq (tgt := 63) (og_callVz (og_acons (og_aload_n (i := 0) (t := 15) (j := 0) (by rfl) (by rfl) d_Model_qOf_45) (og_acons (og_lload_n (i := 2) (j := 2) (by rfl) (by rfl) d_Model_qOf_46) (og_anil))) (by decide) ok_Model_isGrave (v_Model_isGrave (by decide)) og_w1678 d_Model_qOf_47) d_Model_qOf_50 (by decide)) (og_i2l_ (og_callVi (og_acons (og_aload_n (i := 0) (t := 15) (j := 0) (by rfl) (by rfl) d_Model_qOf_53) (og_acons (og_l2i_ (og_lload_n (i := 2) (j := 2) (by rfl) (by rfl) d_Model_qOf_54) d_Model_qOf_55) (og_anil))) (by decide) ok_Model_dueOf (v_Model_dueOf (by decide)) og_w1682 d_Model_qOf_56) d_Model_qOf_59) d_Model_qOf_60 (by decide) (og_lconst (x := 0) d_Model_qOf_63)) d_Model_qOf_64)))) (fun h => by cases h)
abbrev og_c_Model_qTold : ByteArray := prog_14_method_127_code
abbrev og_y_Model_qTold : MethodName := ⟨"OpenGravesModel", "qTold", "(I)J"⟩
theorem v_Model_qTold {own : String} {idx dep : Nat} (h : 5 + 1 ≤ dep) : og_sV own idx og_y_Model_qTold og_c_Model_qTold 4 1 5 dep 13 1 := ⟨⟨12, og_sl_Model, og_T_Model, 102, rfl, by decide, rfl⟩, og_w1966, (og_memP (⟨"OpenGravesModel", "qTold", "(I)J"⟩, 102) (List.mem_of_getElem? (i := 140) (by decide +kernel))), og_w17, og_w1967, ⟨by decide +kernel, by decide +kernel, by decide +kernel⟩, h, by decide⟩
theorem d_Model_qTold_0 : decode og_c_Model_qTold 0 = .ok (.aload_n 0, 1) := by decide +kernel
theorem d_Model_qTold_1 : decode og_c_Model_qTold 1 = .ok (.iconst 0, 1) := by decide +kernel
theorem d_Model_qTold_2 : decode og_c_Model_qTold 2 = .ok (.putfield 399, 3) := by decide +kernel
theorem d_Model_qTold_5 : decode og_c_Model_qTold 5 = .ok (.iconst 0, 1) := by decide +kernel
theorem d_Model_qTold_6 : decode og_c_Model_qTold 6 = .ok (.istore_n 2, 1) := by decide +kernel
theorem d_Model_qTold_7 : decode og_c_Model_qTold 7 = .ok (.iload_n 2, 1) := by decide +kernel
theorem d_Model_qTold_8 : decode og_c_Model_qTold 8 = .ok (.aload_n 0, 1) := by decide +kernel
theorem d_Model_qTold_9 : decode og_c_Model_qTold 9 = .ok (.getfield 326, 3) := by decide +kernel
theorem d_Model_qTold_12 : decode og_c_Model_qTold 12 = .ok (.if_icmp .ge 156, 3) := by decide +kernel
theorem d_Model_qTold_15 : decode og_c_Model_qTold 15 = .ok (.aload_n 0, 1) := by decide +kernel
theorem d_Model_qTold_16 : decode og_c_Model_qTold 16 = .ok (.getfield 227, 3) := by decide +kernel
theorem d_Model_qTold_19 : decode og_c_Model_qTold 19 = .ok (.iload_n 2, 1) := by decide +kernel
theorem d_Model_qTold_20 : decode og_c_Model_qTold 20 = .ok (.iaload, 1) := by decide +kernel
theorem d_Model_qTold_21 : decode og_c_Model_qTold 21 = .ok (.istore_n 3, 1) := by decide +kernel
theorem d_Model_qTold_22 : decode og_c_Model_qTold 22 = .ok (.iload_n 3, 1) := by decide +kernel
theorem d_Model_qTold_23 : decode og_c_Model_qTold 23 = .ok (.sipush 1000, 3) := by decide +kernel
theorem d_Model_qTold_26 : decode og_c_Model_qTold 26 = .ok (.if_icmp .lt 16, 3) := by decide +kernel
theorem d_Model_qTold_29 : decode og_c_Model_qTold 29 = .ok (.aload_n 0, 1) := by decide +kernel
theorem d_Model_qTold_30 : decode og_c_Model_qTold 30 = .ok (.iload_n 3, 1) := by decide +kernel
theorem d_Model_qTold_31 : decode og_c_Model_qTold 31 = .ok (.sipush 1000, 3) := by decide +kernel
theorem d_Model_qTold_34 : decode og_c_Model_qTold 34 = .ok (.isub, 1) := by decide +kernel
theorem d_Model_qTold_35 : decode og_c_Model_qTold 35 = .ok (.i2l, 1) := by decide +kernel
theorem d_Model_qTold_36 : decode og_c_Model_qTold 36 = .ok (.invokevirtual 402, 3) := by decide +kernel
theorem d_Model_qTold_39 : decode og_c_Model_qTold 39 = .ok (.goto 123, 3) := by decide +kernel
theorem d_Model_qTold_42 : decode og_c_Model_qTold 42 = .ok (.iload_n 3, 1) := by decide +kernel
theorem d_Model_qTold_43 : decode og_c_Model_qTold 43 = .ok (.bipush 60, 2) := by decide +kernel
theorem d_Model_qTold_45 : decode og_c_Model_qTold 45 = .ok (.if_icmp .lt 40, 3) := by decide +kernel
theorem d_Model_qTold_48 : decode og_c_Model_qTold 48 = .ok (.aload_n 0, 1) := by decide +kernel
theorem d_Model_qTold_49 : decode og_c_Model_qTold 49 = .ok (.getfield 233, 3) := by decide +kernel
theorem d_Model_qTold_52 : decode og_c_Model_qTold 52 = .ok (.aload_n 0, 1) := by decide +kernel
theorem d_Model_qTold_53 : decode og_c_Model_qTold 53 = .ok (.getfield 399, 3) := by decide +kernel
theorem d_Model_qTold_56 : decode og_c_Model_qTold 56 = .ok (.iconst 1, 1) := by decide +kernel
theorem d_Model_qTold_57 : decode og_c_Model_qTold 57 = .ok (.isub, 1) := by decide +kernel
theorem d_Model_qTold_58 : decode og_c_Model_qTold 58 = .ok (.aload_n 0, 1) := by decide +kernel
theorem d_Model_qTold_59 : decode og_c_Model_qTold 59 = .ok (.iload_n 3, 1) := by decide +kernel
theorem d_Model_qTold_60 : decode og_c_Model_qTold 60 = .ok (.bipush 60, 2) := by decide +kernel
theorem d_Model_qTold_62 : decode og_c_Model_qTold 62 = .ok (.isub, 1) := by decide +kernel
theorem d_Model_qTold_63 : decode og_c_Model_qTold 63 = .ok (.aload_n 0, 1) := by decide +kernel
theorem d_Model_qTold_64 : decode og_c_Model_qTold 64 = .ok (.getfield 233, 3) := by decide +kernel
theorem d_Model_qTold_67 : decode og_c_Model_qTold 67 = .ok (.aload_n 0, 1) := by decide +kernel
theorem d_Model_qTold_68 : decode og_c_Model_qTold 68 = .ok (.getfield 399, 3) := by decide +kernel
theorem d_Model_qTold_71 : decode og_c_Model_qTold 71 = .ok (.iconst 1, 1) := by decide +kernel
theorem d_Model_qTold_72 : decode og_c_Model_qTold 72 = .ok (.isub, 1) := by decide +kernel
theorem d_Model_qTold_73 : decode og_c_Model_qTold 73 = .ok (.laload, 1) := by decide +kernel
theorem d_Model_qTold_74 : decode og_c_Model_qTold 74 = .ok (.iload_n 1, 1) := by decide +kernel
theorem d_Model_qTold_75 : decode og_c_Model_qTold 75 = .ok (.invokevirtual 654, 3) := by decide +kernel
theorem d_Model_qTold_78 : decode og_c_Model_qTold 78 = .ok (.invokestatic 646, 3) := by decide +kernel
theorem d_Model_qTold_81 : decode og_c_Model_qTold 81 = .ok (.lastore, 1) := by decide +kernel
theorem d_Model_qTold_82 : decode og_c_Model_qTold 82 = .ok (.goto 80, 3) := by decide +kernel
theorem d_Model_qTold_85 : decode og_c_Model_qTold 85 = .ok (.iload_n 3, 1) := by decide +kernel
theorem d_Model_qTold_86 : decode og_c_Model_qTold 86 = .ok (.bipush 40, 2) := by decide +kernel
theorem d_Model_qTold_88 : decode og_c_Model_qTold 88 = .ok (.if_icmp .lt 22, 3) := by decide +kernel
theorem d_Model_qTold_91 : decode og_c_Model_qTold 91 = .ok (.aload_n 0, 1) := by decide +kernel
theorem d_Model_qTold_92 : decode og_c_Model_qTold 92 = .ok (.aload_n 0, 1) := by decide +kernel
theorem d_Model_qTold_93 : decode og_c_Model_qTold 93 = .ok (.iload_n 3, 1) := by decide +kernel
theorem d_Model_qTold_94 : decode og_c_Model_qTold 94 = .ok (.bipush 40, 2) := by decide +kernel
theorem d_Model_qTold_96 : decode og_c_Model_qTold 96 = .ok (.isub, 1) := by decide +kernel
theorem d_Model_qTold_97 : decode og_c_Model_qTold 97 = .ok (.iload_n 1, 1) := by decide +kernel
theorem d_Model_qTold_98 : decode og_c_Model_qTold 98 = .ok (.invokevirtual 406, 3) := by decide +kernel
theorem d_Model_qTold_101 : decode og_c_Model_qTold 101 = .ok (.invokestatic 646, 3) := by decide +kernel
theorem d_Model_qTold_104 : decode og_c_Model_qTold 104 = .ok (.invokevirtual 402, 3) := by decide +kernel
theorem d_Model_qTold_107 : decode og_c_Model_qTold 107 = .ok (.goto 55, 3) := by decide +kernel
theorem d_Model_qTold_110 : decode og_c_Model_qTold 110 = .ok (.iload_n 3, 1) := by decide +kernel
theorem d_Model_qTold_111 : decode og_c_Model_qTold 111 = .ok (.bipush 13, 2) := by decide +kernel
theorem d_Model_qTold_113 : decode og_c_Model_qTold 113 = .ok (.if_icmp .ne 11, 3) := by decide +kernel
theorem d_Model_qTold_116 : decode og_c_Model_qTold 116 = .ok (.aload_n 0, 1) := by decide +kernel
theorem d_Model_qTold_117 : decode og_c_Model_qTold 117 = .ok (.lconst 1, 1) := by decide +kernel
theorem d_Model_qTold_118 : decode og_c_Model_qTold 118 = .ok (.invokevirtual 402, 3) := by decide +kernel
theorem d_Model_qTold_121 : decode og_c_Model_qTold 121 = .ok (.goto 41, 3) := by decide +kernel
theorem d_Model_qTold_124 : decode og_c_Model_qTold 124 = .ok (.iload_n 3, 1) := by decide +kernel
theorem d_Model_qTold_125 : decode og_c_Model_qTold 125 = .ok (.bipush 12, 2) := by decide +kernel
theorem d_Model_qTold_127 : decode og_c_Model_qTold 127 = .ok (.if_icmp .ne 30, 3) := by decide +kernel
theorem d_Model_qTold_130 : decode og_c_Model_qTold 130 = .ok (.aload_n 0, 1) := by decide +kernel
theorem d_Model_qTold_131 : decode og_c_Model_qTold 131 = .ok (.getfield 233, 3) := by decide +kernel
theorem d_Model_qTold_134 : decode og_c_Model_qTold 134 = .ok (.aload_n 0, 1) := by decide +kernel
theorem d_Model_qTold_135 : decode og_c_Model_qTold 135 = .ok (.getfield 399, 3) := by decide +kernel
theorem d_Model_qTold_138 : decode og_c_Model_qTold 138 = .ok (.iconst 1, 1) := by decide +kernel
theorem d_Model_qTold_139 : decode og_c_Model_qTold 139 = .ok (.isub, 1) := by decide +kernel
theorem d_Model_qTold_140 : decode og_c_Model_qTold 140 = .ok (.lconst 1, 1) := by decide +kernel
theorem d_Model_qTold_141 : decode og_c_Model_qTold 141 = .ok (.aload_n 0, 1) := by decide +kernel
theorem d_Model_qTold_142 : decode og_c_Model_qTold 142 = .ok (.getfield 233, 3) := by decide +kernel
theorem d_Model_qTold_145 : decode og_c_Model_qTold 145 = .ok (.aload_n 0, 1) := by decide +kernel
theorem d_Model_qTold_146 : decode og_c_Model_qTold 146 = .ok (.getfield 399, 3) := by decide +kernel
theorem d_Model_qTold_149 : decode og_c_Model_qTold 149 = .ok (.iconst 1, 1) := by decide +kernel
theorem d_Model_qTold_150 : decode og_c_Model_qTold 150 = .ok (.isub, 1) := by decide +kernel
theorem d_Model_qTold_151 : decode og_c_Model_qTold 151 = .ok (.laload, 1) := by decide +kernel
theorem d_Model_qTold_152 : decode og_c_Model_qTold 152 = .ok (.lsub, 1) := by decide +kernel
theorem d_Model_qTold_153 : decode og_c_Model_qTold 153 = .ok (.lastore, 1) := by decide +kernel
theorem d_Model_qTold_154 : decode og_c_Model_qTold 154 = .ok (.goto 8, 3) := by decide +kernel
theorem d_Model_qTold_157 : decode og_c_Model_qTold 157 = .ok (.aload_n 0, 1) := by decide +kernel
theorem d_Model_qTold_158 : decode og_c_Model_qTold 158 = .ok (.iload_n 3, 1) := by decide +kernel
theorem d_Model_qTold_159 : decode og_c_Model_qTold 159 = .ok (.invokevirtual 410, 3) := by decide +kernel
theorem d_Model_qTold_162 : decode og_c_Model_qTold 162 = .ok (.iinc 2 1, 3) := by decide +kernel
theorem d_Model_qTold_165 : decode og_c_Model_qTold 165 = .ok (.goto (-158), 3) := by decide +kernel
theorem d_Model_qTold_168 : decode og_c_Model_qTold 168 = .ok (.aload_n 0, 1) := by decide +kernel
theorem d_Model_qTold_169 : decode og_c_Model_qTold 169 = .ok (.getfield 233, 3) := by decide +kernel
theorem d_Model_qTold_172 : decode og_c_Model_qTold 172 = .ok (.iconst 0, 1) := by decide +kernel
theorem d_Model_qTold_173 : decode og_c_Model_qTold 173 = .ok (.laload, 1) := by decide +kernel
theorem d_Model_qTold_174 : decode og_c_Model_qTold 174 = .ok (.lreturn, 1) := by decide +kernel
def m_Model_qTold : og_Dn := og_den [17, 0] 4 1 (og_seq (og_putf 97 (og_loc 0) (og_k 0)) (og_cut (og_seq (og_set 2 (og_k 0)) (og_while (og_cc og_rlt (og_loc 2) (og_get 91 (og_loc 0))) (og_seq (og_set 3 (og_ald 1700 (og_fix (fun _ => 1070) (og_loc 0)) (og_loc 2))) (og_if (og_cc og_rge (og_loc 3) (og_k 1000)) (og_exp (og_call m_Model_qPuts [og_loc 0, og_i2l (og_sub (og_loc 3) (og_k 1000))])) (og_if (og_cc og_rge (og_loc 3) (og_k 60)) (og_ast 1700 (og_fix (fun _ => 1072) (og_loc 0)) (og_sub (og_get 97 (og_loc 0)) (og_k 1)) (og_call m_Model_qClip [og_call m_Model_qOf [og_loc 0, og_sub (og_loc 3) (og_k 60), og_ald 1700 (og_fix (fun _ => 1072) (og_loc 0)) (og_sub (og_get 97 (og_loc 0)) (og_k 1)), og_loc 1]])) (og_if (og_cc og_rge (og_loc 3) (og_k 40)) (og_exp (og_call m_Model_qPuts [og_loc 0, og_call m_Model_qClip [og_call m_Model_qPartOf [og_loc 0, og_sub (og_loc 3) (og_k 40), og_loc 1]]])) (og_if (og_cc og_req (og_loc 3) (og_k 13)) (og_exp (og_call m_Model_qPuts [og_loc 0, og_k 1])) (og_if (og_cc og_req (og_loc 3) (og_k 12)) (og_ast 1700 (og_fix (fun _ => 1072) (og_loc 0)) (og_sub (og_get 97 (og_loc 0)) (og_k 1)) (og_lsub (og_k 1) (og_ald 1700 (og_fix (fun _ => 1072) (og_loc 0)) (og_sub (og_get 97 (og_loc 0)) (og_k 1))))) (og_exp (og_call m_Model_qJoins [og_loc 0, og_loc 3])))))))) (og_inc 2 1))) (og_ret (og_ald 1700 (og_fix (fun _ => 1072) (og_loc 0)) (og_k 0)))))
set_option maxRecDepth 20000 in
theorem ok_Model_qTold : og_MOK og_y_Model_qTold og_c_Model_qTold 4 1 5 [17, 0] m_Model_qTold := og_method (b := 0) (lt' := []) (by decide +kernel) (by decide) (by decide) (og_sseq (og_p_Model_qPiled (og_aload_n (i := 0) (t := 15) (j := 0) (by rfl) (by rfl) d_Model_qTold_0) (og_iconst (by decide) d_Model_qTold_1) og_w1240 d_Model_qTold_2) (og_scut (og_sdrop (lt' := [(0, 17), (1, 0), (2, 0)]) (lt2 := [(0, 17), (1, 0)]) (og_sseq (og_istore_n (i := 2) (lt' := [(0, 17), (1, 0), (2, 0)]) (og_iconst (by decide) d_Model_qTold_5) (by rfl) (by decide) (by decide) d_Model_qTold_6) (og_swhile (T := 15) (F := 168) (cp0 := 162) (og_ccn og_n_lt (og_ige (tgt := 168) (og_iload_n (i := 2) (j := 2) (by rfl) (by rfl) d_Model_qTold_7) (og_f_Model_qCoded (og_aload_n (i := 0) (t := 15) (j := 0) (by rfl) (by rfl) d_Model_qTold_8) og_w1234 d_Model_qTold_9) d_Model_qTold_12 (by decide))) (og_sdrop (lt' := [(0, 17), (1, 0), (2, 0), (3, 0)]) (lt2 := [(0, 17), (1, 0), (2, 0)]) (og_sseq (og_istore_n (i := 3) (lt' := [(0, 17), (1, 0), (2, 0), (3, 0)]) (og_iald (N := 1700) (og_f_Model_qCodes (og_aload_n (i := 0) (t := 15) (j := 0) (by rfl) (by rfl) d_Model_qTold_15) og_w1233 d_Model_qTold_16) (by rfl) (og_iload_n (i := 2) (j := 2) (by rfl) (by rfl) d_Model_qTold_19) d_Model_qTold_20) (by rfl) (by decide) (by decide) d_Model_qTold_21) (og_sif (T := 29) (F := 42) (og_ccn og_n_ge (og_ilt (tgt := 42) (og_iload_n (i := 3) (j := 3) (by rfl) (by rfl) d_Model_qTold_22) (og_sipush (by decide) d_Model_qTold_23) d_Model_qTold_26 (by decide))) (og_gS (b' := 162) (og_callVv (og_acons (og_aload_n (i := 0) (t := 15) (j := 0) (by rfl) (by rfl) d_Model_qTold_29) (og_acons (og_i2l_ (og_isub (og_iload_n (i := 3) (j := 3) (by rfl) (by rfl) d_Model_qTold_30) (og_sipush (by decide) d_Model_qTold_31) d_Model_qTold_34) d_Model_qTold_35) (og_anil))) ok_Model_qPuts (v_Model_qPuts (by decide)) og_w1719 d_Model_qTold_36) d_Model_qTold_39 (by decide)) (og_sif (T := 48) (F := 85) (og_ccn og_n_ge (og_ilt (tgt := 85) (og_iload_n (i := 3) (j := 3) (by rfl) (by rfl) d_Model_qTold_42) (og_bipush (by decide) d_Model_qTold_43) d_Model_qTold_45 (by decide))) (og_gS (b' := 162) (og_lastore (N := 1700) (og_f_Model_qPile (og_aload_n (i := 0) (t := 15) (j := 0) (by rfl) (by rfl) d_Model_qTold_48) og_w1239 d_Model_qTold_49) (by rfl) (og_isub (og_f_Model_qPiled (og_aload_n (i := 0) (t := 15) (j := 0) (by rfl) (by rfl) d_Model_qTold_52) og_w1240 d_Model_qTold_53) (og_iconst (by decide) d_Model_qTold_56) d_Model_qTold_57) (og_callSl (og_acons (og_callVl (og_acons (og_aload_n (i := 0) (t := 15) (j := 0) (by rfl) (by rfl) d_Model_qTold_58) (og_acons (og_isub (og_iload_n (i := 3) (j := 3) (by rfl) (by rfl) d_Model_qTold_59) (og_bipush (by decide) d_Model_qTold_60) d_Model_qTold_62) (og_acons (og_lald (N := 1700) (og_f_Model_qPile (og_aload_n (i := 0) (t := 15) (j := 0) (by rfl) (by rfl) d_Model_qTold_63) og_w1239 d_Model_qTold_64) (by rfl) (og_isub (og_f_Model_qPiled (og_aload_n (i := 0) (t := 15) (j := 0) (by rfl) (by rfl) d_Model_qTold_67) og_w1240 d_Model_qTold_68) (og_iconst (by decide) d_Model_qTold_71) d_Model_qTold_72) d_Model_qTold_73) (og_acons (og_iload_n (i := 1) (j := 1) (by rfl) (by rfl) d_Model_qTold_74) (og_anil))))) (by decide) ok_Model_qOf (v_Model_qOf (by decide)) og_w1968 d_Model_qTold_75) (og_anil)) (by decide) ok_Model_qClip (v_Model_qClip (by decide)) og_w1731 d_Model_qTold_78) d_Model_qTold_81) d_Model_qTold_82 (by decide)) (og_sif (T := 91) (F := 110) (og_ccn og_n_ge (og_ilt (tgt := 110) (og_iload_n (i := 3) (j := 3) (by rfl) (by rfl) d_Model_qTold_85) (og_bipush (by decide) d_Model_qTold_86) d_Model_qTold_88 (by decide))) (og_gS (b' := 162) (og_callVv (og_acons (og_aload_n (i := 0) (t := 15) (j := 0) (by rfl) (by rfl) d_Model_qTold_91) (og_acons (og_callSl (og_acons (og_callVl (og_acons (og_aload_n (i := 0) (t := 15) (j := 0) (by rfl) (by rfl) d_Model_qTold_92) (og_acons (og_isub (og_iload_n (i := 3) (j := 3) (by rfl) (by rfl) d_Model_qTold_93) (og_bipush (by decide) d_Model_qTold_94) d_Model_qTold_96) (og_acons (og_iload_n (i := 1) (j := 1) (by rfl) (by rfl) d_Model_qTold_97) (og_anil)))) (by decide) ok_Model_qPartOf (v_Model_qPartOf (by decide)) og_w1723 d_Model_qTold_98) (og_anil)) (by decide) ok_Model_qClip (v_Model_qClip (by decide)) og_w1731 d_Model_qTold_101) (og_anil))) ok_Model_qPuts (v_Model_qPuts (by decide)) og_w1719 d_Model_qTold_104) d_Model_qTold_107 (by decide)) (og_sif (T := 116) (F := 124) (og_ccn og_n_eq (og_ine (tgt := 124) (og_iload_n (i := 3) (j := 3) (by rfl) (by rfl) d_Model_qTold_110) (og_bipush (by decide) d_Model_qTold_111) d_Model_qTold_113 (by decide))) (og_gS (b' := 162) (og_callVv (og_acons (og_aload_n (i := 0) (t := 15) (j := 0) (by rfl) (by rfl) d_Model_qTold_116) (og_acons (og_lconst (x := 1) d_Model_qTold_117) (og_anil))) ok_Model_qPuts (v_Model_qPuts (by decide)) og_w1719 d_Model_qTold_118) d_Model_qTold_121 (by decide)) (og_sif (T := 130) (F := 157) (og_ccn og_n_eq (og_ine (tgt := 157) (og_iload_n (i := 3) (j := 3) (by rfl) (by rfl) d_Model_qTold_124) (og_bipush (by decide) d_Model_qTold_125) d_Model_qTold_127 (by decide))) (og_gS (b' := 162) (og_lastore (N := 1700) (og_f_Model_qPile (og_aload_n (i := 0) (t := 15) (j := 0) (by rfl) (by rfl) d_Model_qTold_130) og_w1239 d_Model_qTold_131) (by rfl) (og_isub (og_f_Model_qPiled (og_aload_n (i := 0) (t := 15) (j := 0) (by rfl) (by rfl) d_Model_qTold_134) og_w1240 d_Model_qTold_135) (og_iconst (by decide) d_Model_qTold_138) d_Model_qTold_139) (og_lsub_ (og_lconst (x := 1) d_Model_qTold_140) (og_lald (N := 1700) (og_f_Model_qPile (og_aload_n (i := 0) (t := 15) (j := 0) (by rfl) (by rfl) d_Model_qTold_141) og_w1239 d_Model_qTold_142) (by rfl) (og_isub (og_f_Model_qPiled (og_aload_n (i := 0) (t := 15) (j := 0) (by rfl) (by rfl) d_Model_qTold_145) og_w1240 d_Model_qTold_146) (og_iconst (by decide) d_Model_qTold_149) d_Model_qTold_150) d_Model_qTold_151) d_Model_qTold_152) d_Model_qTold_153) d_Model_qTold_154 (by decide)) (og_callVv (og_acons (og_aload_n (i := 0) (t := 15) (j := 0) (by rfl) (by rfl) d_Model_qTold_157) (og_acons (og_iload_n (i := 3) (j := 3) (by rfl) (by rfl) d_Model_qTold_158) (og_anil))) ok_Model_qJoins (v_Model_qJoins (by decide)) og_w1727 d_Model_qTold_159))))))) (by decide)) (og_gS (b' := 7) (og_iinc (j := 2) (lt' := [(0, 17), (1, 0), (2, 0)]) (by rfl) (by decide) (by decide) d_Model_qTold_162) d_Model_qTold_165 (by decide)))) (by decide)) (og_sretl (og_lald (N := 1700) (og_f_Model_qPile (og_aload_n (i := 0) (t := 15) (j := 0) (by rfl) (by rfl) d_Model_qTold_168) og_w1239 d_Model_qTold_169) (by rfl) (og_iconst (by decide) d_Model_qTold_172) d_Model_qTold_173) d_Model_qTold_174))) (fun h => by cases h)
abbrev og_c_Model_qKind : ByteArray := prog_14_method_128_code
abbrev og_y_Model_qKind : MethodName := ⟨"OpenGravesModel", "qKind", "()I"⟩
theorem v_Model_qKind {own : String} {idx dep : Nat} (h : 5 + 1 ≤ dep) : og_sV own idx og_y_Model_qKind og_c_Model_qKind 2 0 5 dep 13 0 := ⟨⟨12, og_sl_Model, og_T_Model, 102, rfl, by decide, rfl⟩, og_w1962, (og_memP (⟨"OpenGravesModel", "qKind", "()I"⟩, 102) (List.mem_of_getElem? (i := 139) (by decide +kernel))), og_w17, og_w1963, ⟨by decide +kernel, by decide +kernel, by decide +kernel⟩, h, by decide⟩
theorem d_Model_qKind_0 : decode og_c_Model_qKind 0 = .ok (.aload_n 0, 1) := by decide +kernel
theorem d_Model_qKind_1 : decode og_c_Model_qKind 1 = .ok (.aload_n 0, 1) := by decide +kernel
theorem d_Model_qKind_2 : decode og_c_Model_qKind 2 = .ok (.getfield 161, 3) := by decide +kernel
theorem d_Model_qKind_5 : decode og_c_Model_qKind 5 = .ok (.invokevirtual 269, 3) := by decide +kernel
theorem d_Model_qKind_8 : decode og_c_Model_qKind 8 = .ok (.ifCond .eq 7, 3) := by decide +kernel
theorem d_Model_qKind_11 : decode og_c_Model_qKind 11 = .ok (.iconst 0, 1) := by decide +kernel
theorem d_Model_qKind_12 : decode og_c_Model_qKind 12 = .ok (.goto 64, 3) := by decide +kernel
theorem d_Model_qKind_15 : decode og_c_Model_qKind 15 = .ok (.aload_n 0, 1) := by decide +kernel
theorem d_Model_qKind_16 : decode og_c_Model_qKind 16 = .ok (.aload_n 0, 1) := by decide +kernel
theorem d_Model_qKind_17 : decode og_c_Model_qKind 17 = .ok (.getfield 164, 3) := by decide +kernel
theorem d_Model_qKind_20 : decode og_c_Model_qKind 20 = .ok (.invokevirtual 269, 3) := by decide +kernel
theorem d_Model_qKind_23 : decode og_c_Model_qKind 23 = .ok (.ifCond .eq 7, 3) := by decide +kernel
theorem d_Model_qKind_26 : decode og_c_Model_qKind 26 = .ok (.iconst 1, 1) := by decide +kernel
theorem d_Model_qKind_27 : decode og_c_Model_qKind 27 = .ok (.goto 49, 3) := by decide +kernel
theorem d_Model_qKind_30 : decode og_c_Model_qKind 30 = .ok (.aload_n 0, 1) := by decide +kernel
theorem d_Model_qKind_31 : decode og_c_Model_qKind 31 = .ok (.aload_n 0, 1) := by decide +kernel
theorem d_Model_qKind_32 : decode og_c_Model_qKind 32 = .ok (.getfield 167, 3) := by decide +kernel
theorem d_Model_qKind_35 : decode og_c_Model_qKind 35 = .ok (.invokevirtual 269, 3) := by decide +kernel
theorem d_Model_qKind_38 : decode og_c_Model_qKind 38 = .ok (.ifCond .eq 7, 3) := by decide +kernel
theorem d_Model_qKind_41 : decode og_c_Model_qKind 41 = .ok (.iconst 2, 1) := by decide +kernel
theorem d_Model_qKind_42 : decode og_c_Model_qKind 42 = .ok (.goto 34, 3) := by decide +kernel
theorem d_Model_qKind_45 : decode og_c_Model_qKind 45 = .ok (.aload_n 0, 1) := by decide +kernel
theorem d_Model_qKind_46 : decode og_c_Model_qKind 46 = .ok (.aload_n 0, 1) := by decide +kernel
theorem d_Model_qKind_47 : decode og_c_Model_qKind 47 = .ok (.getfield 170, 3) := by decide +kernel
theorem d_Model_qKind_50 : decode og_c_Model_qKind 50 = .ok (.invokevirtual 269, 3) := by decide +kernel
theorem d_Model_qKind_53 : decode og_c_Model_qKind 53 = .ok (.ifCond .eq 7, 3) := by decide +kernel
theorem d_Model_qKind_56 : decode og_c_Model_qKind 56 = .ok (.iconst 3, 1) := by decide +kernel
theorem d_Model_qKind_57 : decode og_c_Model_qKind 57 = .ok (.goto 19, 3) := by decide +kernel
theorem d_Model_qKind_60 : decode og_c_Model_qKind 60 = .ok (.aload_n 0, 1) := by decide +kernel
theorem d_Model_qKind_61 : decode og_c_Model_qKind 61 = .ok (.aload_n 0, 1) := by decide +kernel
theorem d_Model_qKind_62 : decode og_c_Model_qKind 62 = .ok (.getfield 173, 3) := by decide +kernel
theorem d_Model_qKind_65 : decode og_c_Model_qKind 65 = .ok (.invokevirtual 269, 3) := by decide +kernel
theorem d_Model_qKind_68 : decode og_c_Model_qKind 68 = .ok (.ifCond .eq 7, 3) := by decide +kernel
theorem d_Model_qKind_71 : decode og_c_Model_qKind 71 = .ok (.iconst 4, 1) := by decide +kernel
theorem d_Model_qKind_72 : decode og_c_Model_qKind 72 = .ok (.goto 4, 3) := by decide +kernel
theorem d_Model_qKind_75 : decode og_c_Model_qKind 75 = .ok (.iconst 5, 1) := by decide +kernel
theorem d_Model_qKind_76 : decode og_c_Model_qKind 76 = .ok (.istore_n 1, 1) := by decide +kernel
theorem d_Model_qKind_77 : decode og_c_Model_qKind 77 = .ok (.iload_n 1, 1) := by decide +kernel
theorem d_Model_qKind_78 : decode og_c_Model_qKind 78 = .ok (.iconst 5, 1) := by decide +kernel
theorem d_Model_qKind_79 : decode og_c_Model_qKind 79 = .ok (.if_icmp .ne 11, 3) := by decide +kernel
theorem d_Model_qKind_82 : decode og_c_Model_qKind 82 = .ok (.aload_n 0, 1) := by decide +kernel
theorem d_Model_qKind_83 : decode og_c_Model_qKind 83 = .ok (.aload_n 0, 1) := by decide +kernel
theorem d_Model_qKind_84 : decode og_c_Model_qKind 84 = .ok (.getfield 176, 3) := by decide +kernel
theorem d_Model_qKind_87 : decode og_c_Model_qKind 87 = .ok (.invokevirtual 314, 3) := by decide +kernel
theorem d_Model_qKind_90 : decode og_c_Model_qKind 90 = .ok (.iload_n 1, 1) := by decide +kernel
theorem d_Model_qKind_91 : decode og_c_Model_qKind 91 = .ok (.ireturn, 1) := by decide +kernel
def m_Model_qKind : og_Dn := og_den [17] 2 0 (og_seq (og_set 1 (og_ei (og_cb (og_call m_Model_takes [og_loc 0, og_fix (fun _ => 1048) (og_loc 0)])) (og_k 0) (og_ei (og_cb (og_call m_Model_takes [og_loc 0, og_fix (fun _ => 1049) (og_loc 0)])) (og_k 1) (og_ei (og_cb (og_call m_Model_takes [og_loc 0, og_fix (fun _ => 1050) (og_loc 0)])) (og_k 2) (og_ei (og_cb (og_call m_Model_takes [og_loc 0, og_fix (fun _ => 1051) (og_loc 0)])) (og_k 3) (og_ei (og_cb (og_call m_Model_takes [og_loc 0, og_fix (fun _ => 1052) (og_loc 0)])) (og_k 4) (og_k 5))))))) (og_cut (og_if (og_cc og_req (og_loc 1) (og_k 5)) (og_exp (og_call m_Model_asks [og_loc 0, og_fix (fun _ => 1053) (og_loc 0)])) (og_skip)) (og_ret (og_loc 1))))
set_option maxRecDepth 20000 in
theorem ok_Model_qKind : og_MOK og_y_Model_qKind og_c_Model_qKind 2 0 5 [17] m_Model_qKind := og_method (b := 0) (lt' := []) (by decide +kernel) (by decide) (by decide) (og_sseq (og_istore_n (i := 1) (lt' := [(0, 17), (1, 0)]) (og_eite (og_cbeq (tgt := 15) (og_callVz (og_acons (og_aload_n (i := 0) (t := 15) (j := 0) (by rfl) (by rfl) d_Model_qKind_0) (og_acons (og_genc (og_f_Model_firstAsked (og_aload_n (i := 0) (t := 15) (j := 0) (by rfl) (by rfl) d_Model_qKind_1) og_w1211 d_Model_qKind_2) (by rfl)) (og_anil))) (by decide) ok_Model_takes (v_Model_takes (by decide)) og_w1472 d_Model_qKind_5) d_Model_qKind_8 (by decide)) (og_iconst (by decide) d_Model_qKind_11) d_Model_qKind_12 (by decide) (og_eite (og_cbeq (tgt := 30) (og_callVz (og_acons (og_aload_n (i := 0) (t := 15) (j := 0) (by rfl) (by rfl) d_Model_qKind_15) (og_acons (og_genc (og_f_Model_lastAsked (og_aload_n (i := 0) (t := 15) (j := 0) (by rfl) (by rfl) d_Model_qKind_16) og_w1212 d_Model_qKind_17) (by rfl)) (og_anil))) (by decide) ok_Model_takes (v_Model_takes (by decide)) og_w1472 d_Model_qKind_20) d_Model_qKind_23 (by decide)) (og_iconst (by decide) d_Model_qKind_26) d_Model_qKind_27 (by decide) (og_eite (og_cbeq (tgt := 45) (og_callVz (og_acons (og_aload_n (i := 0) (t := 15) (j := 0) (by rfl) (by rfl) d_Model_qKind_30) (og_acons (og_genc (og_f_Model_oftenAsked (og_aload_n (i := 0) (t := 15) (j := 0) (by rfl) (by rfl) d_Model_qKind_31) og_w1213 d_Model_qKind_32) (by rfl)) (og_anil))) (by decide) ok_Model_takes (v_Model_takes (by decide)) og_w1472 d_Model_qKind_35) d_Model_qKind_38 (by decide)) (og_iconst (by decide) d_Model_qKind_41) d_Model_qKind_42 (by decide) (og_eite (og_cbeq (tgt := 60) (og_callVz (og_acons (og_aload_n (i := 0) (t := 15) (j := 0) (by rfl) (by rfl) d_Model_qKind_45) (og_acons (og_genc (og_f_Model_totalAsked (og_aload_n (i := 0) (t := 15) (j := 0) (by rfl) (by rfl) d_Model_qKind_46) og_w1214 d_Model_qKind_47) (by rfl)) (og_anil))) (by decide) ok_Model_takes (v_Model_takes (by decide)) og_w1472 d_Model_qKind_50) d_Model_qKind_53 (by decide)) (og_iconst (by decide) d_Model_qKind_56) d_Model_qKind_57 (by decide) (og_eite (og_cbeq (tgt := 75) (og_callVz (og_acons (og_aload_n (i := 0) (t := 15) (j := 0) (by rfl) (by rfl) d_Model_qKind_60) (og_acons (og_genc (og_f_Model_mostAsked (og_aload_n (i := 0) (t := 15) (j := 0) (by rfl) (by rfl) d_Model_qKind_61) og_w1215 d_Model_qKind_62) (by rfl)) (og_anil))) (by decide) ok_Model_takes (v_Model_takes (by decide)) og_w1472 d_Model_qKind_65) d_Model_qKind_68 (by decide)) (og_iconst (by decide) d_Model_qKind_71) d_Model_qKind_72 (by decide) (og_iconst (by decide) d_Model_qKind_75)))))) (by rfl) (by decide) (by decide) d_Model_qKind_76) (og_scut (og_sif (T := 82) (F := 90) (og_ccn og_n_eq (og_ine (tgt := 90) (og_iload_n (i := 1) (j := 1) (by rfl) (by rfl) d_Model_qKind_77) (og_iconst (by decide) d_Model_qKind_78) d_Model_qKind_79 (by decide))) (og_callVv (og_acons (og_aload_n (i := 0) (t := 15) (j := 0) (by rfl) (by rfl) d_Model_qKind_82) (og_acons (og_genc (og_f_Model_leastAsked (og_aload_n (i := 0) (t := 15) (j := 0) (by rfl) (by rfl) d_Model_qKind_83) og_w1216 d_Model_qKind_84) (by rfl)) (og_anil))) ok_Model_asks (v_Model_asks (by decide)) og_w1509 d_Model_qKind_87) (og_sskip)) (og_sreti (og_iload_n (i := 1) (j := 1) (by rfl) (by rfl) d_Model_qKind_90) d_Model_qKind_91))) (fun h => by cases h)
abbrev og_c_Model_qTakes : ByteArray := prog_14_method_129_code
abbrev og_y_Model_qTakes : MethodName := ⟨"OpenGravesModel", "qTakes", "(IJI)V"⟩
theorem v_Model_qTakes {own : String} {idx dep : Nat} (h : 1 + 1 ≤ dep) : og_sV own idx og_y_Model_qTakes og_c_Model_qTakes 6 2 1 dep 13 3 := ⟨⟨12, og_sl_Model, og_T_Model, 102, rfl, by decide, rfl⟩, og_w1974, (og_memP (⟨"OpenGravesModel", "qTakes", "(IJI)V"⟩, 102) (List.mem_of_getElem? (i := 142) (by decide +kernel))), og_w17, og_w1975, ⟨by decide +kernel, by decide +kernel, by decide +kernel⟩, h, by decide⟩
theorem d_Model_qTakes_0 : decode og_c_Model_qTakes 0 = .ok (.iload_n 1, 1) := by decide +kernel
theorem d_Model_qTakes_1 : decode og_c_Model_qTakes 1 = .ok (.iconst 3, 1) := by decide +kernel
theorem d_Model_qTakes_2 : decode og_c_Model_qTakes 2 = .ok (.if_icmp .ge 13, 3) := by decide +kernel
theorem d_Model_qTakes_5 : decode og_c_Model_qTakes 5 = .ok (.lload_n 2, 1) := by decide +kernel
theorem d_Model_qTakes_6 : decode og_c_Model_qTakes 6 = .ok (.lconst 1, 1) := by decide +kernel
theorem d_Model_qTakes_7 : decode og_c_Model_qTakes 7 = .ok (.lcmp, 1) := by decide +kernel
theorem d_Model_qTakes_8 : decode og_c_Model_qTakes 8 = .ok (.ifCond .ne 7, 3) := by decide +kernel
theorem d_Model_qTakes_11 : decode og_c_Model_qTakes 11 = .ok (.iconst 1, 1) := by decide +kernel
theorem d_Model_qTakes_12 : decode og_c_Model_qTakes 12 = .ok (.goto 4, 3) := by decide +kernel
theorem d_Model_qTakes_15 : decode og_c_Model_qTakes 15 = .ok (.iconst 0, 1) := by decide +kernel
theorem d_Model_qTakes_16 : decode og_c_Model_qTakes 16 = .ok (.istore 5, 2) := by decide +kernel
theorem d_Model_qTakes_18 : decode og_c_Model_qTakes 18 = .ok (.iload_n 1, 1) := by decide +kernel
theorem d_Model_qTakes_19 : decode og_c_Model_qTakes 19 = .ok (.ifCond .ne 19, 3) := by decide +kernel
theorem d_Model_qTakes_22 : decode og_c_Model_qTakes 22 = .ok (.iload 5, 2) := by decide +kernel
theorem d_Model_qTakes_24 : decode og_c_Model_qTakes 24 = .ok (.ifCond .eq 14, 3) := by decide +kernel
theorem d_Model_qTakes_27 : decode og_c_Model_qTakes 27 = .ok (.aload_n 0, 1) := by decide +kernel
theorem d_Model_qTakes_28 : decode og_c_Model_qTakes 28 = .ok (.getfield 658, 3) := by decide +kernel
theorem d_Model_qTakes_31 : decode og_c_Model_qTakes 31 = .ok (.ldc2_w 538, 3) := by decide +kernel
theorem d_Model_qTakes_34 : decode og_c_Model_qTakes 34 = .ok (.lcmp, 1) := by decide +kernel
theorem d_Model_qTakes_35 : decode og_c_Model_qTakes 35 = .ok (.ifCond .eq 13, 3) := by decide +kernel
theorem d_Model_qTakes_38 : decode og_c_Model_qTakes 38 = .ok (.iload_n 1, 1) := by decide +kernel
theorem d_Model_qTakes_39 : decode og_c_Model_qTakes 39 = .ok (.iconst 1, 1) := by decide +kernel
theorem d_Model_qTakes_40 : decode og_c_Model_qTakes 40 = .ok (.if_icmp .ne 15, 3) := by decide +kernel
theorem d_Model_qTakes_43 : decode og_c_Model_qTakes 43 = .ok (.iload 5, 2) := by decide +kernel
theorem d_Model_qTakes_45 : decode og_c_Model_qTakes 45 = .ok (.ifCond .eq 10, 3) := by decide +kernel
theorem d_Model_qTakes_48 : decode og_c_Model_qTakes 48 = .ok (.aload_n 0, 1) := by decide +kernel
theorem d_Model_qTakes_49 : decode og_c_Model_qTakes 49 = .ok (.iload 4, 2) := by decide +kernel
theorem d_Model_qTakes_51 : decode og_c_Model_qTakes 51 = .ok (.i2l, 1) := by decide +kernel
theorem d_Model_qTakes_52 : decode og_c_Model_qTakes 52 = .ok (.putfield 658, 3) := by decide +kernel
theorem d_Model_qTakes_55 : decode og_c_Model_qTakes 55 = .ok (.iload_n 1, 1) := by decide +kernel
theorem d_Model_qTakes_56 : decode og_c_Model_qTakes 56 = .ok (.iconst 2, 1) := by decide +kernel
theorem d_Model_qTakes_57 : decode og_c_Model_qTakes 57 = .ok (.if_icmp .ne 18, 3) := by decide +kernel
theorem d_Model_qTakes_60 : decode og_c_Model_qTakes 60 = .ok (.iload 5, 2) := by decide +kernel
theorem d_Model_qTakes_62 : decode og_c_Model_qTakes 62 = .ok (.ifCond .eq 13, 3) := by decide +kernel
theorem d_Model_qTakes_65 : decode og_c_Model_qTakes 65 = .ok (.aload_n 0, 1) := by decide +kernel
theorem d_Model_qTakes_66 : decode og_c_Model_qTakes 66 = .ok (.dup, 1) := by decide +kernel
theorem d_Model_qTakes_67 : decode og_c_Model_qTakes 67 = .ok (.getfield 658, 3) := by decide +kernel
theorem d_Model_qTakes_70 : decode og_c_Model_qTakes 70 = .ok (.lconst 1, 1) := by decide +kernel
theorem d_Model_qTakes_71 : decode og_c_Model_qTakes 71 = .ok (.ladd, 1) := by decide +kernel
theorem d_Model_qTakes_72 : decode og_c_Model_qTakes 72 = .ok (.putfield 658, 3) := by decide +kernel
theorem d_Model_qTakes_75 : decode og_c_Model_qTakes 75 = .ok (.iload_n 1, 1) := by decide +kernel
theorem d_Model_qTakes_76 : decode og_c_Model_qTakes 76 = .ok (.iconst 3, 1) := by decide +kernel
theorem d_Model_qTakes_77 : decode og_c_Model_qTakes 77 = .ok (.if_icmp .ne 13, 3) := by decide +kernel
theorem d_Model_qTakes_80 : decode og_c_Model_qTakes 80 = .ok (.aload_n 0, 1) := by decide +kernel
theorem d_Model_qTakes_81 : decode og_c_Model_qTakes 81 = .ok (.dup, 1) := by decide +kernel
theorem d_Model_qTakes_82 : decode og_c_Model_qTakes 82 = .ok (.getfield 658, 3) := by decide +kernel
theorem d_Model_qTakes_85 : decode og_c_Model_qTakes 85 = .ok (.lload_n 2, 1) := by decide +kernel
theorem d_Model_qTakes_86 : decode og_c_Model_qTakes 86 = .ok (.ladd, 1) := by decide +kernel
theorem d_Model_qTakes_87 : decode og_c_Model_qTakes 87 = .ok (.putfield 658, 3) := by decide +kernel
theorem d_Model_qTakes_90 : decode og_c_Model_qTakes 90 = .ok (.iload_n 1, 1) := by decide +kernel
theorem d_Model_qTakes_91 : decode og_c_Model_qTakes 91 = .ok (.iconst 3, 1) := by decide +kernel
theorem d_Model_qTakes_92 : decode og_c_Model_qTakes 92 = .ok (.if_icmp .le 41, 3) := by decide +kernel
theorem d_Model_qTakes_95 : decode og_c_Model_qTakes 95 = .ok (.aload_n 0, 1) := by decide +kernel
theorem d_Model_qTakes_96 : decode og_c_Model_qTakes 96 = .ok (.getfield 661, 3) := by decide +kernel
theorem d_Model_qTakes_99 : decode og_c_Model_qTakes 99 = .ok (.ifCond .ne 29, 3) := by decide +kernel
theorem d_Model_qTakes_102 : decode og_c_Model_qTakes 102 = .ok (.iload_n 1, 1) := by decide +kernel
theorem d_Model_qTakes_103 : decode og_c_Model_qTakes 103 = .ok (.iconst 4, 1) := by decide +kernel
theorem d_Model_qTakes_104 : decode og_c_Model_qTakes 104 = .ok (.if_icmp .ne 15, 3) := by decide +kernel
theorem d_Model_qTakes_107 : decode og_c_Model_qTakes 107 = .ok (.lload_n 2, 1) := by decide +kernel
theorem d_Model_qTakes_108 : decode og_c_Model_qTakes 108 = .ok (.aload_n 0, 1) := by decide +kernel
theorem d_Model_qTakes_109 : decode og_c_Model_qTakes 109 = .ok (.getfield 658, 3) := by decide +kernel
theorem d_Model_qTakes_112 : decode og_c_Model_qTakes 112 = .ok (.lcmp, 1) := by decide +kernel
theorem d_Model_qTakes_113 : decode og_c_Model_qTakes 113 = .ok (.ifCond .le 20, 3) := by decide +kernel
theorem d_Model_qTakes_116 : decode og_c_Model_qTakes 116 = .ok (.goto 12, 3) := by decide +kernel
theorem d_Model_qTakes_119 : decode og_c_Model_qTakes 119 = .ok (.lload_n 2, 1) := by decide +kernel
theorem d_Model_qTakes_120 : decode og_c_Model_qTakes 120 = .ok (.aload_n 0, 1) := by decide +kernel
theorem d_Model_qTakes_121 : decode og_c_Model_qTakes 121 = .ok (.getfield 658, 3) := by decide +kernel
theorem d_Model_qTakes_124 : decode og_c_Model_qTakes 124 = .ok (.lcmp, 1) := by decide +kernel
theorem d_Model_qTakes_125 : decode og_c_Model_qTakes 125 = .ok (.ifCond .ge 8, 3) := by decide +kernel
theorem d_Model_qTakes_128 : decode og_c_Model_qTakes 128 = .ok (.aload_n 0, 1) := by decide +kernel
theorem d_Model_qTakes_129 : decode og_c_Model_qTakes 129 = .ok (.lload_n 2, 1) := by decide +kernel
theorem d_Model_qTakes_130 : decode og_c_Model_qTakes 130 = .ok (.putfield 658, 3) := by decide +kernel
theorem d_Model_qTakes_133 : decode og_c_Model_qTakes 133 = .ok (.aload_n 0, 1) := by decide +kernel
theorem d_Model_qTakes_134 : decode og_c_Model_qTakes 134 = .ok (.iconst 0, 1) := by decide +kernel
theorem d_Model_qTakes_135 : decode og_c_Model_qTakes 135 = .ok (.putfield 661, 3) := by decide +kernel
theorem d_Model_qTakes_138 : decode og_c_Model_qTakes 138 = .ok (.return_, 1) := by decide +kernel
def m_Model_qTakes : og_Dn := og_den [17, 0, 1, 0] 6 2 (og_seq (og_set 5 (og_ec (og_and (og_cc og_rlt (og_loc 1) (og_k 3)) (og_cc og_req (og_loc 2) (og_k 1))))) (og_cut (og_if (og_or (og_and (og_and (og_cc og_req (og_loc 1) (og_k 0)) (og_cb (og_loc 5))) (og_cc og_req (og_get 98 (og_loc 0)) (og_k (-1)))) (og_and (og_cc og_req (og_loc 1) (og_k 1)) (og_cb (og_loc 5)))) (og_putf 98 (og_loc 0) (og_i2l (og_loc 4))) (og_skip)) (og_cut (og_if (og_and (og_cc og_req (og_loc 1) (og_k 2)) (og_cb (og_loc 5))) (og_pop64 og_padd 98 (og_loc 0) (og_k 1)) (og_skip)) (og_cut (og_if (og_cc og_req (og_loc 1) (og_k 3)) (og_pop64 og_padd 98 (og_loc 0) (og_loc 2)) (og_skip)) (og_cut (og_if (og_and (og_cc og_rgt (og_loc 1) (og_k 3)) (og_or (og_cb (og_get 99 (og_loc 0))) (og_cite (og_cc og_req (og_loc 1) (og_k 4)) (og_cc og_rgt (og_loc 2) (og_get 98 (og_loc 0))) (og_cc og_rlt (og_loc 2) (og_get 98 (og_loc 0)))))) (og_putf 98 (og_loc 0) (og_loc 2)) (og_skip)) (og_putz 99 (og_loc 0) (og_k 0)))))))
set_option maxRecDepth 20000 in
theorem ok_Model_qTakes : og_MOK og_y_Model_qTakes og_c_Model_qTakes 6 2 1 [17, 0, 1, 0] m_Model_qTakes := og_method (b := 138) (lt' := [(0, 17), (1, 0), (2, 1), (4, 0)]) (by decide +kernel) (by decide) (by decide) (og_sdrop (lt' := [(0, 17), (1, 0), (2, 1), (4, 0), (5, 0)]) (lt2 := [(0, 17), (1, 0), (2, 1), (4, 0)]) (og_sseq (og_istore (i := 5) (lt' := [(0, 17), (1, 0), (2, 1), (4, 0), (5, 0)]) (og_econd (b := 0) (og_cand (og_ccn og_n_lt (og_ige (tgt := 15) (og_iload_n (i := 1) (j := 1) (by rfl) (by rfl) d_Model_qTakes_0) (og_iconst (by decide) d_Model_qTakes_1) d_Model_qTakes_2 (by decide))) (og_ccn og_n_eq (og_lne (tgt := 15) (og_lload_n (i := 2) (j := 2) (by rfl) (by rfl) d_Model_qTakes_5) (og_lconst (x := 1) d_Model_qTakes_6) d_Model_qTakes_7 d_Model_qTakes_8 (by decide)))) d_Model_qTakes_11 d_Model_qTakes_12 (by decide) d_Model_qTakes_15 (by rfl)) (by decide) (by decide) d_Model_qTakes_16) (og_scut (og_sif (T := 48) (F := 55) (og_cor (og_cand (og_cand (og_ccn og_n_eq (og_zne (tgt := 38) (og_iload_n (i := 1) (j := 1) (by rfl) (by rfl) d_Model_qTakes_18) d_Model_qTakes_19 (by decide))) (og_cbeq (tgt := 38) (og_iload (i := 5) (j := 4) (by rfl) d_Model_qTakes_22) d_Model_qTakes_24 (by decide))) (og_leq (tgt := 48) (og_f_Model_qAnswer (og_aload_n (i := 0) (t := 15) (j := 0) (by rfl) (by rfl) d_Model_qTakes_27) og_w1241 d_Model_qTakes_28) (og_ldc2 (x := (-1)) (by decide) og_w1853 d_Model_qTakes_31) d_Model_qTakes_34 d_Model_qTakes_35 (by decide))) (og_cand (og_ccn og_n_eq (og_ine (tgt := 55) (og_iload_n (i := 1) (j := 1) (by rfl) (by rfl) d_Model_qTakes_38) (og_iconst (by decide) d_Model_qTakes_39) d_Model_qTakes_40 (by decide))) (og_cbeq (tgt := 55) (og_iload (i := 5) (j := 4) (by rfl) d_Model_qTakes_43) d_Model_qTakes_45 (by decide)))) (og_p_Model_qAnswer (og_aload_n (i := 0) (t := 15) (j := 0) (by rfl) (by rfl) d_Model_qTakes_48) (og_i2l_ (og_iload (i := 4) (j := 3) (by rfl) d_Model_qTakes_49) d_Model_qTakes_51) og_w1241 d_Model_qTakes_52) (og_sskip)) (og_scut (og_sif (T := 65) (F := 75) (og_cand (og_ccn og_n_eq (og_ine (tgt := 75) (og_iload_n (i := 1) (j := 1) (by rfl) (by rfl) d_Model_qTakes_55) (og_iconst (by decide) d_Model_qTakes_56) d_Model_qTakes_57 (by decide))) (og_cbeq (tgt := 75) (og_iload (i := 5) (j := 4) (by rfl) d_Model_qTakes_60) d_Model_qTakes_62 (by decide))) (og_qladd_Model_qAnswer (og_aload_n (i := 0) (t := 15) (j := 0) (by rfl) (by rfl) d_Model_qTakes_65) d_Model_qTakes_66 d_Model_qTakes_67 (og_lconst (x := 1) d_Model_qTakes_70) d_Model_qTakes_71 og_w1241 d_Model_qTakes_72) (og_sskip)) (og_scut (og_sif (T := 80) (F := 90) (og_ccn og_n_eq (og_ine (tgt := 90) (og_iload_n (i := 1) (j := 1) (by rfl) (by rfl) d_Model_qTakes_75) (og_iconst (by decide) d_Model_qTakes_76) d_Model_qTakes_77 (by decide))) (og_qladd_Model_qAnswer (og_aload_n (i := 0) (t := 15) (j := 0) (by rfl) (by rfl) d_Model_qTakes_80) d_Model_qTakes_81 d_Model_qTakes_82 (og_lload_n (i := 2) (j := 2) (by rfl) (by rfl) d_Model_qTakes_85) d_Model_qTakes_86 og_w1241 d_Model_qTakes_87) (og_sskip)) (og_scut (og_sif (T := 128) (F := 133) (og_cand (og_ccn og_n_gt (og_ile (tgt := 133) (og_iload_n (i := 1) (j := 1) (by rfl) (by rfl) d_Model_qTakes_90) (og_iconst (by decide) d_Model_qTakes_91) d_Model_qTakes_92 (by decide))) (og_cor (og_cbne (tgt := 128) (og_f_Model_qIsNew (og_aload_n (i := 0) (t := 15) (j := 0) (by rfl) (by rfl) d_Model_qTakes_95) og_w1242 d_Model_qTakes_96) d_Model_qTakes_99 (by decide)) (og_ccite (og_ccn og_n_eq (og_ine (tgt := 119) (og_iload_n (i := 1) (j := 1) (by rfl) (by rfl) d_Model_qTakes_102) (og_iconst (by decide) d_Model_qTakes_103) d_Model_qTakes_104 (by decide))) (og_gT (T' := 128) (og_ccn og_n_gt (og_lle (tgt := 133) (og_lload_n (i := 2) (j := 2) (by rfl) (by rfl) d_Model_qTakes_107) (og_f_Model_qAnswer (og_aload_n (i := 0) (t := 15) (j := 0) (by rfl) (by rfl) d_Model_qTakes_108) og_w1241 d_Model_qTakes_109) d_Model_qTakes_112 d_Model_qTakes_113 (by decide))) d_Model_qTakes_116 (by decide)) (og_ccn og_n_lt (og_lge (tgt := 133) (og_lload_n (i := 2) (j := 2) (by rfl) (by rfl) d_Model_qTakes_119) (og_f_Model_qAnswer (og_aload_n (i := 0) (t := 15) (j := 0) (by rfl) (by rfl) d_Model_qTakes_120) og_w1241 d_Model_qTakes_121) d_Model_qTakes_124 d_Model_qTakes_125 (by decide)))))) (og_p_Model_qAnswer (og_aload_n (i := 0) (t := 15) (j := 0) (by rfl) (by rfl) d_Model_qTakes_128) (og_lload_n (i := 2) (j := 2) (by rfl) (by rfl) d_Model_qTakes_129) og_w1241 d_Model_qTakes_130) (og_sskip)) (og_p_Model_qIsNew (og_aload_n (i := 0) (t := 15) (j := 0) (by rfl) (by rfl) d_Model_qTakes_133) (og_iconst (by decide) d_Model_qTakes_134) og_w1242 d_Model_qTakes_135)))))) (by decide)) (fun _ => d_Model_qTakes_138)
abbrev og_c_Model_ask : ByteArray := prog_14_method_130_code
abbrev og_y_Model_ask : MethodName := ⟨"OpenGravesModel", "ask", "()J"⟩
theorem v_Model_ask {own : String} {idx dep : Nat} (h : 10 + 1 ≤ dep) : og_sV own idx og_y_Model_ask og_c_Model_ask 3 1 10 dep 13 0 := ⟨⟨12, og_sl_Model, og_T_Model, 102, rfl, by decide, rfl⟩, og_w1957, og_w1958, og_w17, og_w1959, ⟨by decide +kernel, by decide +kernel, by decide +kernel⟩, h, by decide⟩
theorem d_Model_ask_0 : decode og_c_Model_ask 0 = .ok (.aload_n 0, 1) := by decide +kernel
theorem d_Model_ask_1 : decode og_c_Model_ask 1 = .ok (.aload_n 0, 1) := by decide +kernel
theorem d_Model_ask_2 : decode og_c_Model_ask 2 = .ok (.getfield 239, 3) := by decide +kernel
theorem d_Model_ask_5 : decode og_c_Model_ask 5 = .ok (.putfield 251, 3) := by decide +kernel
theorem d_Model_ask_8 : decode og_c_Model_ask 8 = .ok (.aload_n 0, 1) := by decide +kernel
theorem d_Model_ask_9 : decode og_c_Model_ask 9 = .ok (.iconst 0, 1) := by decide +kernel
theorem d_Model_ask_10 : decode og_c_Model_ask 10 = .ok (.putfield 239, 3) := by decide +kernel
theorem d_Model_ask_13 : decode og_c_Model_ask 13 = .ok (.aload_n 0, 1) := by decide +kernel
theorem d_Model_ask_14 : decode og_c_Model_ask 14 = .ok (.iconst 0, 1) := by decide +kernel
theorem d_Model_ask_15 : decode og_c_Model_ask 15 = .ok (.putfield 248, 3) := by decide +kernel
theorem d_Model_ask_18 : decode og_c_Model_ask 18 = .ok (.aload_n 0, 1) := by decide +kernel
theorem d_Model_ask_19 : decode og_c_Model_ask 19 = .ok (.iconst (-1), 1) := by decide +kernel
theorem d_Model_ask_20 : decode og_c_Model_ask 20 = .ok (.putfield 262, 3) := by decide +kernel
theorem d_Model_ask_23 : decode og_c_Model_ask 23 = .ok (.aload_n 0, 1) := by decide +kernel
theorem d_Model_ask_24 : decode og_c_Model_ask 24 = .ok (.iconst 0, 1) := by decide +kernel
theorem d_Model_ask_25 : decode og_c_Model_ask 25 = .ok (.putfield 242, 3) := by decide +kernel
theorem d_Model_ask_28 : decode og_c_Model_ask 28 = .ok (.aload_n 0, 1) := by decide +kernel
theorem d_Model_ask_29 : decode og_c_Model_ask 29 = .ok (.iconst (-1), 1) := by decide +kernel
theorem d_Model_ask_30 : decode og_c_Model_ask 30 = .ok (.putfield 245, 3) := by decide +kernel
theorem d_Model_ask_33 : decode og_c_Model_ask 33 = .ok (.aload_n 0, 1) := by decide +kernel
theorem d_Model_ask_34 : decode og_c_Model_ask 34 = .ok (.iconst 3, 1) := by decide +kernel
theorem d_Model_ask_35 : decode og_c_Model_ask 35 = .ok (.putfield 300, 3) := by decide +kernel
theorem d_Model_ask_38 : decode og_c_Model_ask 38 = .ok (.aload_n 0, 1) := by decide +kernel
theorem d_Model_ask_39 : decode og_c_Model_ask 39 = .ok (.iconst 0, 1) := by decide +kernel
theorem d_Model_ask_40 : decode og_c_Model_ask 40 = .ok (.putfield 326, 3) := by decide +kernel
theorem d_Model_ask_43 : decode og_c_Model_ask 43 = .ok (.aload_n 0, 1) := by decide +kernel
theorem d_Model_ask_44 : decode og_c_Model_ask 44 = .ok (.iconst 0, 1) := by decide +kernel
theorem d_Model_ask_45 : decode og_c_Model_ask 45 = .ok (.putfield 329, 3) := by decide +kernel
theorem d_Model_ask_48 : decode og_c_Model_ask 48 = .ok (.aload_n 0, 1) := by decide +kernel
theorem d_Model_ask_49 : decode og_c_Model_ask 49 = .ok (.iconst 0, 1) := by decide +kernel
theorem d_Model_ask_50 : decode og_c_Model_ask 50 = .ok (.putfield 332, 3) := by decide +kernel
theorem d_Model_ask_53 : decode og_c_Model_ask 53 = .ok (.aload_n 0, 1) := by decide +kernel
theorem d_Model_ask_54 : decode og_c_Model_ask 54 = .ok (.iconst 0, 1) := by decide +kernel
theorem d_Model_ask_55 : decode og_c_Model_ask 55 = .ok (.putfield 335, 3) := by decide +kernel
theorem d_Model_ask_58 : decode og_c_Model_ask 58 = .ok (.aload_n 0, 1) := by decide +kernel
theorem d_Model_ask_59 : decode og_c_Model_ask 59 = .ok (.invokevirtual 664, 3) := by decide +kernel
theorem d_Model_ask_62 : decode og_c_Model_ask 62 = .ok (.istore_n 1, 1) := by decide +kernel
theorem d_Model_ask_63 : decode og_c_Model_ask 63 = .ok (.aload_n 0, 1) := by decide +kernel
theorem d_Model_ask_64 : decode og_c_Model_ask 64 = .ok (.getfield 242, 3) := by decide +kernel
theorem d_Model_ask_67 : decode og_c_Model_ask 67 = .ok (.ifCond .ne 15, 3) := by decide +kernel
theorem d_Model_ask_70 : decode og_c_Model_ask 70 = .ok (.iload_n 1, 1) := by decide +kernel
theorem d_Model_ask_71 : decode og_c_Model_ask 71 = .ok (.iconst 3, 1) := by decide +kernel
theorem d_Model_ask_72 : decode og_c_Model_ask 72 = .ok (.if_icmp .ge 10, 3) := by decide +kernel
theorem d_Model_ask_75 : decode og_c_Model_ask 75 = .ok (.aload_n 0, 1) := by decide +kernel
theorem d_Model_ask_76 : decode og_c_Model_ask 76 = .ok (.invokevirtual 338, 3) := by decide +kernel
theorem d_Model_ask_79 : decode og_c_Model_ask 79 = .ok (.goto 14, 3) := by decide +kernel
theorem d_Model_ask_82 : decode og_c_Model_ask 82 = .ok (.aload_n 0, 1) := by decide +kernel
theorem d_Model_ask_83 : decode og_c_Model_ask 83 = .ok (.getfield 242, 3) := by decide +kernel
theorem d_Model_ask_86 : decode og_c_Model_ask 86 = .ok (.ifCond .ne 7, 3) := by decide +kernel
theorem d_Model_ask_89 : decode og_c_Model_ask 89 = .ok (.aload_n 0, 1) := by decide +kernel
theorem d_Model_ask_90 : decode og_c_Model_ask 90 = .ok (.invokevirtual 341, 3) := by decide +kernel
theorem d_Model_ask_93 : decode og_c_Model_ask 93 = .ok (.aload_n 0, 1) := by decide +kernel
theorem d_Model_ask_94 : decode og_c_Model_ask 94 = .ok (.getfield 242, 3) := by decide +kernel
theorem d_Model_ask_97 : decode og_c_Model_ask 97 = .ok (.ifCond .ne 20, 3) := by decide +kernel
theorem d_Model_ask_100 : decode og_c_Model_ask 100 = .ok (.aload_n 0, 1) := by decide +kernel
theorem d_Model_ask_101 : decode og_c_Model_ask 101 = .ok (.invokevirtual 254, 3) := by decide +kernel
theorem d_Model_ask_104 : decode og_c_Model_ask 104 = .ok (.iconst (-1), 1) := by decide +kernel
theorem d_Model_ask_105 : decode og_c_Model_ask 105 = .ok (.if_icmp .eq 12, 3) := by decide +kernel
theorem d_Model_ask_108 : decode og_c_Model_ask 108 = .ok (.aload_n 0, 1) := by decide +kernel
theorem d_Model_ask_109 : decode og_c_Model_ask 109 = .ok (.iconst 1, 1) := by decide +kernel
theorem d_Model_ask_110 : decode og_c_Model_ask 110 = .ok (.aload_n 0, 1) := by decide +kernel
theorem d_Model_ask_111 : decode og_c_Model_ask 111 = .ok (.getfield 248, 3) := by decide +kernel
theorem d_Model_ask_114 : decode og_c_Model_ask 114 = .ok (.invokevirtual 272, 3) := by decide +kernel
theorem d_Model_ask_117 : decode og_c_Model_ask 117 = .ok (.aload_n 0, 1) := by decide +kernel
theorem d_Model_ask_118 : decode og_c_Model_ask 118 = .ok (.aload_n 0, 1) := by decide +kernel
theorem d_Model_ask_119 : decode og_c_Model_ask 119 = .ok (.getfield 242, 3) := by decide +kernel
theorem d_Model_ask_122 : decode og_c_Model_ask 122 = .ok (.putfield 366, 3) := by decide +kernel
theorem d_Model_ask_125 : decode og_c_Model_ask 125 = .ok (.aload_n 0, 1) := by decide +kernel
theorem d_Model_ask_126 : decode og_c_Model_ask 126 = .ok (.aload_n 0, 1) := by decide +kernel
theorem d_Model_ask_127 : decode og_c_Model_ask 127 = .ok (.getfield 245, 3) := by decide +kernel
theorem d_Model_ask_130 : decode og_c_Model_ask 130 = .ok (.putfield 13, 3) := by decide +kernel
theorem d_Model_ask_133 : decode og_c_Model_ask 133 = .ok (.aload_n 0, 1) := by decide +kernel
theorem d_Model_ask_134 : decode og_c_Model_ask 134 = .ok (.getfield 242, 3) := by decide +kernel
theorem d_Model_ask_137 : decode og_c_Model_ask 137 = .ok (.ifCond .eq 7, 3) := by decide +kernel
theorem d_Model_ask_140 : decode og_c_Model_ask 140 = .ok (.ldc2_w 492, 3) := by decide +kernel
theorem d_Model_ask_143 : decode og_c_Model_ask 143 = .ok (.lreturn, 1) := by decide +kernel
theorem d_Model_ask_144 : decode og_c_Model_ask 144 = .ok (.aload_n 0, 1) := by decide +kernel
theorem d_Model_ask_145 : decode og_c_Model_ask 145 = .ok (.iload_n 1, 1) := by decide +kernel
theorem d_Model_ask_146 : decode og_c_Model_ask 146 = .ok (.iconst 2, 1) := by decide +kernel
theorem d_Model_ask_147 : decode og_c_Model_ask 147 = .ok (.if_icmp .ge 9, 3) := by decide +kernel
theorem d_Model_ask_150 : decode og_c_Model_ask 150 = .ok (.ldc2_w 538, 3) := by decide +kernel
theorem d_Model_ask_153 : decode og_c_Model_ask 153 = .ok (.goto 4, 3) := by decide +kernel
theorem d_Model_ask_156 : decode og_c_Model_ask 156 = .ok (.lconst 0, 1) := by decide +kernel
theorem d_Model_ask_157 : decode og_c_Model_ask 157 = .ok (.putfield 658, 3) := by decide +kernel
theorem d_Model_ask_160 : decode og_c_Model_ask 160 = .ok (.aload_n 0, 1) := by decide +kernel
theorem d_Model_ask_161 : decode og_c_Model_ask 161 = .ok (.iconst 1, 1) := by decide +kernel
theorem d_Model_ask_162 : decode og_c_Model_ask 162 = .ok (.putfield 661, 3) := by decide +kernel
theorem d_Model_ask_165 : decode og_c_Model_ask 165 = .ok (.iconst 0, 1) := by decide +kernel
theorem d_Model_ask_166 : decode og_c_Model_ask 166 = .ok (.istore_n 2, 1) := by decide +kernel
theorem d_Model_ask_167 : decode og_c_Model_ask 167 = .ok (.iload_n 2, 1) := by decide +kernel
theorem d_Model_ask_168 : decode og_c_Model_ask 168 = .ok (.aload_n 0, 1) := by decide +kernel
theorem d_Model_ask_169 : decode og_c_Model_ask 169 = .ok (.invokevirtual 381, 3) := by decide +kernel
theorem d_Model_ask_172 : decode og_c_Model_ask 172 = .ok (.if_icmp .ge 25, 3) := by decide +kernel
theorem d_Model_ask_175 : decode og_c_Model_ask 175 = .ok (.aload_n 0, 1) := by decide +kernel
theorem d_Model_ask_176 : decode og_c_Model_ask 176 = .ok (.iload_n 2, 1) := by decide +kernel
theorem d_Model_ask_177 : decode og_c_Model_ask 177 = .ok (.putfield 396, 3) := by decide +kernel
theorem d_Model_ask_180 : decode og_c_Model_ask 180 = .ok (.aload_n 0, 1) := by decide +kernel
theorem d_Model_ask_181 : decode og_c_Model_ask 181 = .ok (.iload_n 1, 1) := by decide +kernel
theorem d_Model_ask_182 : decode og_c_Model_ask 182 = .ok (.aload_n 0, 1) := by decide +kernel
theorem d_Model_ask_183 : decode og_c_Model_ask 183 = .ok (.iload_n 2, 1) := by decide +kernel
theorem d_Model_ask_184 : decode og_c_Model_ask 184 = .ok (.invokevirtual 667, 3) := by decide +kernel
theorem d_Model_ask_187 : decode og_c_Model_ask 187 = .ok (.iload_n 2, 1) := by decide +kernel
theorem d_Model_ask_188 : decode og_c_Model_ask 188 = .ok (.invokevirtual 670, 3) := by decide +kernel
theorem d_Model_ask_191 : decode og_c_Model_ask 191 = .ok (.iinc 2 1, 3) := by decide +kernel
theorem d_Model_ask_194 : decode og_c_Model_ask 194 = .ok (.goto (-27), 3) := by decide +kernel
theorem d_Model_ask_197 : decode og_c_Model_ask 197 = .ok (.aload_n 0, 1) := by decide +kernel
theorem d_Model_ask_198 : decode og_c_Model_ask 198 = .ok (.getfield 658, 3) := by decide +kernel
theorem d_Model_ask_201 : decode og_c_Model_ask 201 = .ok (.lreturn, 1) := by decide +kernel
def m_Model_ask : og_Dn := og_den [17] 3 1 (og_seq (og_putf 3 (og_loc 0) (og_get 1 (og_loc 0))) (og_seq (og_putf 1 (og_loc 0) (og_k 0)) (og_seq (og_putf 2 (og_loc 0) (og_k 0)) (og_seq (og_putf 4 (og_loc 0) (og_k (-1))) (og_seq (og_putf 5 (og_loc 0) (og_k 0)) (og_seq (og_putf 6 (og_loc 0) (og_k (-1))) (og_seq (og_putf 48 (og_loc 0) (og_k 3)) (og_seq (og_putf 91 (og_loc 0) (og_k 0)) (og_seq (og_putf 93 (og_loc 0) (og_k 0)) (og_seq (og_putf 94 (og_loc 0) (og_k 0)) (og_seq (og_putf 95 (og_loc 0) (og_k 0)) (og_seq (og_set 1 (og_call m_Model_qKind [og_loc 0])) (og_cut (og_if (og_and (og_cc og_req (og_get 5 (og_loc 0)) (og_k 0)) (og_cc og_rlt (og_loc 1) (og_k 3))) (og_exp (og_call m_Model_qTest [og_loc 0])) (og_if (og_cc og_req (og_get 5 (og_loc 0)) (og_k 0)) (og_exp (og_call m_Model_qSums [og_loc 0])) (og_skip))) (og_cut (og_if (og_and (og_cc og_req (og_get 5 (og_loc 0)) (og_k 0)) (og_cc og_rne (og_call m_Model_look [og_loc 0]) (og_k (-1)))) (og_exp (og_call m_Model_fail [og_loc 0, og_k 1, og_get 2 (og_loc 0)])) (og_skip)) (og_seq (og_putf 7 (og_loc 0) (og_get 5 (og_loc 0))) (og_seq (og_putf 8 (og_loc 0) (og_get 6 (og_loc 0))) (og_seq (og_if (og_cc og_rne (og_get 5 (og_loc 0)) (og_k 0)) (og_ret (og_k (-1000000000000000))) (og_skip)) (og_seq (og_putf 98 (og_loc 0) (og_ei (og_cc og_rlt (og_loc 1) (og_k 2)) (og_k (-1)) (og_k 0))) (og_seq (og_putz 99 (og_loc 0) (og_k 1)) (og_cut (og_seq (og_set 2 (og_k 0)) (og_while (og_cc og_rlt (og_loc 2) (og_call m_Model_personMany [og_loc 0])) (og_seq (og_putf 51 (og_loc 0) (og_loc 2)) (og_exp (og_call m_Model_qTakes [og_loc 0, og_loc 1, og_call m_Model_qTold [og_loc 0, og_loc 2], og_loc 2]))) (og_inc 2 1))) (og_ret (og_get 98 (og_loc 0)))))))))))))))))))))))
set_option maxRecDepth 20000 in
theorem ok_Model_ask : og_MOK og_y_Model_ask og_c_Model_ask 3 1 10 [17] m_Model_ask := og_method (b := 0) (lt' := []) (by decide +kernel) (by decide) (by decide) (og_sseq (og_p_Model_end (og_aload_n (i := 0) (t := 15) (j := 0) (by rfl) (by rfl) d_Model_ask_0) (og_f_Model_taped (og_aload_n (i := 0) (t := 15) (j := 0) (by rfl) (by rfl) d_Model_ask_1) og_w1144 d_Model_ask_2) og_w1146 d_Model_ask_5) (og_sseq (og_p_Model_taped (og_aload_n (i := 0) (t := 15) (j := 0) (by rfl) (by rfl) d_Model_ask_8) (og_iconst (by decide) d_Model_ask_9) og_w1144 d_Model_ask_10) (og_sseq (og_p_Model_at (og_aload_n (i := 0) (t := 15) (j := 0) (by rfl) (by rfl) d_Model_ask_13) (og_iconst (by decide) d_Model_ask_14) og_w1145 d_Model_ask_15) (og_sseq (og_p_Model_ended (og_aload_n (i := 0) (t := 15) (j := 0) (by rfl) (by rfl) d_Model_ask_18) (og_iconst (by decide) d_Model_ask_19) og_w1147 d_Model_ask_20) (og_sseq (og_p_Model_bad (og_aload_n (i := 0) (t := 15) (j := 0) (by rfl) (by rfl) d_Model_ask_23) (og_iconst (by decide) d_Model_ask_24) og_w1148 d_Model_ask_25) (og_sseq (og_p_Model_badPlace (og_aload_n (i := 0) (t := 15) (j := 0) (by rfl) (by rfl) d_Model_ask_28) (og_iconst (by decide) d_Model_ask_29) og_w1149 d_Model_ask_30) (og_sseq (og_p_Model_textKind (og_aload_n (i := 0) (t := 15) (j := 0) (by rfl) (by rfl) d_Model_ask_33) (og_iconst (by decide) d_Model_ask_34) og_w1191 d_Model_ask_35) (og_sseq (og_p_Model_qCoded (og_aload_n (i := 0) (t := 15) (j := 0) (by rfl) (by rfl) d_Model_ask_38) (og_iconst (by decide) d_Model_ask_39) og_w1234 d_Model_ask_40) (og_sseq (og_p_Model_qWaits (og_aload_n (i := 0) (t := 15) (j := 0) (by rfl) (by rfl) d_Model_ask_43) (og_iconst (by decide) d_Model_ask_44) og_w1236 d_Model_ask_45) (og_sseq (og_p_Model_qOpened (og_aload_n (i := 0) (t := 15) (j := 0) (by rfl) (by rfl) d_Model_ask_48) (og_iconst (by decide) d_Model_ask_49) og_w1237 d_Model_ask_50) (og_sseq (og_p_Model_qBase (og_aload_n (i := 0) (t := 15) (j := 0) (by rfl) (by rfl) d_Model_ask_53) (og_iconst (by decide) d_Model_ask_54) og_w1238 d_Model_ask_55) (og_sseq (og_istore_n (i := 1) (lt' := [(0, 17), (1, 0)]) (og_callVi (og_acons (og_aload_n (i := 0) (t := 15) (j := 0) (by rfl) (by rfl) d_Model_ask_58) (og_anil)) (by decide) ok_Model_qKind (v_Model_qKind (by decide)) og_w1960 d_Model_ask_59) (by rfl) (by decide) (by decide) d_Model_ask_62) (og_scut (og_sif (T := 75) (F := 82) (og_cand (og_ccn og_n_eq (og_zne (tgt := 82) (og_f_Model_bad (og_aload_n (i := 0) (t := 15) (j := 0) (by rfl) (by rfl) d_Model_ask_63) og_w1148 d_Model_ask_64) d_Model_ask_67 (by decide))) (og_ccn og_n_lt (og_ige (tgt := 82) (og_iload_n (i := 1) (j := 1) (by rfl) (by rfl) d_Model_ask_70) (og_iconst (by decide) d_Model_ask_71) d_Model_ask_72 (by decide)))) (og_gS (b' := 93) (og_callVv (og_acons (og_aload_n (i := 0) (t := 15) (j := 0) (by rfl) (by rfl) d_Model_ask_75) (og_anil)) ok_Model_qTest (v_Model_qTest (by decide)) og_w1534 d_Model_ask_76) d_Model_ask_79 (by decide)) (og_sif (T := 89) (F := 93) (og_ccn og_n_eq (og_zne (tgt := 93) (og_f_Model_bad (og_aload_n (i := 0) (t := 15) (j := 0) (by rfl) (by rfl) d_Model_ask_82) og_w1148 d_Model_ask_83) d_Model_ask_86 (by decide))) (og_callVv (og_acons (og_aload_n (i := 0) (t := 15) (j := 0) (by rfl) (by rfl) d_Model_ask_89) (og_anil)) ok_Model_qSums (v_Model_qSums (by decide)) og_w1550 d_Model_ask_90) (og_sskip))) (og_scut (og_sif (T := 108) (F := 117) (og_cand (og_ccn og_n_eq (og_zne (tgt := 117) (og_f_Model_bad (og_aload_n (i := 0) (t := 15) (j := 0) (by rfl) (by rfl) d_Model_ask_93) og_w1148 d_Model_ask_94) d_Model_ask_97 (by decide))) (og_ccn og_n_ne (og_ieq (tgt := 117) (og_callVi (og_acons (og_aload_n (i := 0) (t := 15) (j := 0) (by rfl) (by rfl) d_Model_ask_100) (og_anil)) (by decide) ok_Model_look (v_Model_look (by decide)) og_w1464 d_Model_ask_101) (og_iconst (by decide) d_Model_ask_104) d_Model_ask_105 (by decide)))) (og_callVv (og_acons (og_aload_n (i := 0) (t := 15) (j := 0) (by rfl) (by rfl) d_Model_ask_108) (og_acons (og_iconst (by decide) d_Model_ask_109) (og_acons (og_f_Model_at (og_aload_n (i := 0) (t := 15) (j := 0) (by rfl) (by rfl) d_Model_ask_110) og_w1145 d_Model_ask_111) (og_anil)))) ok_Model_fail (v_Model_fail (by decide)) og_w1491 d_Model_ask_114) (og_sskip)) (og_sseq (og_p_Model_fault (og_aload_n (i := 0) (t := 15) (j := 0) (by rfl) (by rfl) d_Model_ask_117) (og_f_Model_bad (og_aload_n (i := 0) (t := 15) (j := 0) (by rfl) (by rfl) d_Model_ask_118) og_w1148 d_Model_ask_119) og_w1150 d_Model_ask_122) (og_sseq (og_p_Model_faultPlace (og_aload_n (i := 0) (t := 15) (j := 0) (by rfl) (by rfl) d_Model_ask_125) (og_f_Model_badPlace (og_aload_n (i := 0) (t := 15) (j := 0) (by rfl) (by rfl) d_Model_ask_126) og_w1149 d_Model_ask_127) og_w1151 d_Model_ask_130) (og_sseq (og_sif (T := 140) (F := 144) (og_ccn og_n_ne (og_zeq (tgt := 144) (og_f_Model_bad (og_aload_n (i := 0) (t := 15) (j := 0) (by rfl) (by rfl) d_Model_ask_133) og_w1148 d_Model_ask_134) d_Model_ask_137 (by decide))) (og_sretl (og_ldc2 (x := (-1000000000000000)) (by decide) og_w1706 d_Model_ask_140) d_Model_ask_143) (og_sskip)) (og_sseq (og_p_Model_qAnswer (og_aload_n (i := 0) (t := 15) (j := 0) (by rfl) (by rfl) d_Model_ask_144) (og_eite (og_ccn og_n_lt (og_ige (tgt := 156) (og_iload_n (i := 1) (j := 1) (by rfl) (by rfl) d_Model_ask_145) (og_iconst (by decide) d_Model_ask_146) d_Model_ask_147 (by decide))) (og_ldc2 (x := (-1)) (by decide) og_w1853 d_Model_ask_150) d_Model_ask_153 (by decide) (og_lconst (x := 0) d_Model_ask_156)) og_w1241 d_Model_ask_157) (og_sseq (og_p_Model_qIsNew (og_aload_n (i := 0) (t := 15) (j := 0) (by rfl) (by rfl) d_Model_ask_160) (og_iconst (by decide) d_Model_ask_161) og_w1242 d_Model_ask_162) (og_scut (og_sdrop (lt' := [(0, 17), (1, 0), (2, 0)]) (lt2 := [(0, 17), (1, 0)]) (og_sseq (og_istore_n (i := 2) (lt' := [(0, 17), (1, 0), (2, 0)]) (og_iconst (by decide) d_Model_ask_165) (by rfl) (by decide) (by decide) d_Model_ask_166) (og_swhile (T := 175) (F := 197) (cp0 := 191) (og_ccn og_n_lt (og_ige (tgt := 197) (og_iload_n (i := 2) (j := 2) (by rfl) (by rfl) d_Model_ask_167) (og_callVi (og_acons (og_aload_n (i := 0) (t := 15) (j := 0) (by rfl) (by rfl) d_Model_ask_168) (og_anil)) (by decide) ok_Model_personMany (v_Model_personMany (by decide)) og_w1637 d_Model_ask_169) d_Model_ask_172 (by decide))) (og_sseq (og_p_Model_askPerson (og_aload_n (i := 0) (t := 15) (j := 0) (by rfl) (by rfl) d_Model_ask_175) (og_iload_n (i := 2) (j := 2) (by rfl) (by rfl) d_Model_ask_176) og_w1194 d_Model_ask_177) (og_callVv (og_acons (og_aload_n (i := 0) (t := 15) (j := 0) (by rfl) (by rfl) d_Model_ask_180) (og_acons (og_iload_n (i := 1) (j := 1) (by rfl) (by rfl) d_Model_ask_181) (og_acons (og_callVl (og_acons (og_aload_n (i := 0) (t := 15) (j := 0) (by rfl) (by rfl) d_Model_ask_182) (og_acons (og_iload_n (i := 2) (j := 2) (by rfl) (by rfl) d_Model_ask_183) (og_anil))) (by decide) ok_Model_qTold (v_Model_qTold (by decide)) og_w1964 d_Model_ask_184) (og_acons (og_iload_n (i := 2) (j := 2) (by rfl) (by rfl) d_Model_ask_187) (og_anil))))) ok_Model_qTakes (v_Model_qTakes (by decide)) og_w1972 d_Model_ask_188)) (og_gS (b' := 167) (og_iinc (j := 2) (lt' := [(0, 17), (1, 0), (2, 0)]) (by rfl) (by decide) (by decide) d_Model_ask_191) d_Model_ask_194 (by decide)))) (by decide)) (og_sretl (og_f_Model_qAnswer (og_aload_n (i := 0) (t := 15) (j := 0) (by rfl) (by rfl) d_Model_ask_197) og_w1241 d_Model_ask_198) d_Model_ask_201))))))))))))))))))))) (fun h => by cases h)
abbrev og_c_Model_checked : ByteArray := prog_14_method_131_code
abbrev og_y_Model_checked : MethodName := ⟨"OpenGravesModel", "checked", "([II)I"⟩
theorem v_Model_checked {dep : Nat} (h : 1 + 1 ≤ dep) : og_sS og_y_Model_checked og_c_Model_checked 4 0 1 dep 2 := ⟨og_w1985, og_w17, og_w1986, ⟨by decide +kernel, by decide +kernel, by decide +kernel⟩, h, by decide⟩
theorem d_Model_checked_0 : decode og_c_Model_checked 0 = .ok (.sipush 241, 3) := by decide +kernel
theorem d_Model_checked_3 : decode og_c_Model_checked 3 = .ok (.istore_n 2, 1) := by decide +kernel
theorem d_Model_checked_4 : decode og_c_Model_checked 4 = .ok (.iconst 0, 1) := by decide +kernel
theorem d_Model_checked_5 : decode og_c_Model_checked 5 = .ok (.istore_n 3, 1) := by decide +kernel
theorem d_Model_checked_6 : decode og_c_Model_checked 6 = .ok (.iload_n 3, 1) := by decide +kernel
theorem d_Model_checked_7 : decode og_c_Model_checked 7 = .ok (.iload_n 1, 1) := by decide +kernel
theorem d_Model_checked_8 : decode og_c_Model_checked 8 = .ok (.if_icmp .ge 21, 3) := by decide +kernel
theorem d_Model_checked_11 : decode og_c_Model_checked 11 = .ok (.iconst 3, 1) := by decide +kernel
theorem d_Model_checked_12 : decode og_c_Model_checked 12 = .ok (.iload_n 2, 1) := by decide +kernel
theorem d_Model_checked_13 : decode og_c_Model_checked 13 = .ok (.imul, 1) := by decide +kernel
theorem d_Model_checked_14 : decode og_c_Model_checked 14 = .ok (.aload_n 0, 1) := by decide +kernel
theorem d_Model_checked_15 : decode og_c_Model_checked 15 = .ok (.iload_n 3, 1) := by decide +kernel
theorem d_Model_checked_16 : decode og_c_Model_checked 16 = .ok (.iaload, 1) := by decide +kernel
theorem d_Model_checked_17 : decode og_c_Model_checked 17 = .ok (.iadd, 1) := by decide +kernel
theorem d_Model_checked_18 : decode og_c_Model_checked 18 = .ok (.sipush 251, 3) := by decide +kernel
theorem d_Model_checked_21 : decode og_c_Model_checked 21 = .ok (.irem, 1) := by decide +kernel
theorem d_Model_checked_22 : decode og_c_Model_checked 22 = .ok (.istore_n 2, 1) := by decide +kernel
theorem d_Model_checked_23 : decode og_c_Model_checked 23 = .ok (.iinc 3 1, 3) := by decide +kernel
theorem d_Model_checked_26 : decode og_c_Model_checked 26 = .ok (.goto (-20), 3) := by decide +kernel
theorem d_Model_checked_29 : decode og_c_Model_checked 29 = .ok (.iload_n 2, 1) := by decide +kernel
theorem d_Model_checked_30 : decode og_c_Model_checked 30 = .ok (.ireturn, 1) := by decide +kernel
def m_Model_checked : og_Dn := og_den [2, 0] 4 0 (og_seq (og_set 2 (og_k 241)) (og_cut (og_seq (og_set 3 (og_k 0)) (og_while (og_cc og_rlt (og_loc 3) (og_loc 1)) (og_set 2 (og_rem (og_add (og_mul (og_k 3) (og_loc 2)) (og_gld (og_loc 0) (og_loc 3))) (og_k 251))) (og_inc 3 1))) (og_ret (og_loc 2))))
set_option maxRecDepth 20000 in
theorem ok_Model_checked : og_MOK og_y_Model_checked og_c_Model_checked 4 0 1 [2, 0] m_Model_checked := og_method (b := 0) (lt' := []) (by decide +kernel) (by decide) (by decide) (og_sseq (og_istore_n (i := 2) (lt' := [(0, 2), (1, 0), (2, 0)]) (og_sipush (by decide) d_Model_checked_0) (by rfl) (by decide) (by decide) d_Model_checked_3) (og_scut (og_sdrop (lt' := [(0, 2), (1, 0), (2, 0), (3, 0)]) (lt2 := [(0, 2), (1, 0), (2, 0)]) (og_sseq (og_istore_n (i := 3) (lt' := [(0, 2), (1, 0), (2, 0), (3, 0)]) (og_iconst (by decide) d_Model_checked_4) (by rfl) (by decide) (by decide) d_Model_checked_5) (og_swhile (T := 11) (F := 29) (cp0 := 23) (og_ccn og_n_lt (og_ige (tgt := 29) (og_iload_n (i := 3) (j := 3) (by rfl) (by rfl) d_Model_checked_6) (og_iload_n (i := 1) (j := 1) (by rfl) (by rfl) d_Model_checked_7) d_Model_checked_8 (by decide))) (og_istore_n (i := 2) (lt' := [(0, 2), (1, 0), (2, 0), (3, 0)]) (og_irem (og_iadd (og_imul (og_iconst (by decide) d_Model_checked_11) (og_iload_n (i := 2) (j := 2) (by rfl) (by rfl) d_Model_checked_12) d_Model_checked_13) (og_giald (og_aload_n (i := 0) (t := 0) (j := 0) (by rfl) (by rfl) d_Model_checked_14) (og_iload_n (i := 3) (j := 3) (by rfl) (by rfl) d_Model_checked_15) d_Model_checked_16) d_Model_checked_17) (og_sipush (by decide) d_Model_checked_18) d_Model_checked_21) (by rfl) (by decide) (by decide) d_Model_checked_22) (og_gS (b' := 6) (og_iinc (j := 3) (lt' := [(0, 2), (1, 0), (2, 0), (3, 0)]) (by rfl) (by decide) (by decide) d_Model_checked_23) d_Model_checked_26 (by decide)))) (by decide)) (og_sreti (og_iload_n (i := 2) (j := 2) (by rfl) (by rfl) d_Model_checked_29) d_Model_checked_30))) (fun h => by cases h)
abbrev og_c_Model_writes : ByteArray := prog_14_method_132_code
abbrev og_y_Model_writes : MethodName := ⟨"OpenGravesModel", "writes", "(I)V"⟩
theorem v_Model_writes {own : String} {idx dep : Nat} (h : 1 + 1 ≤ dep) : og_sV own idx og_y_Model_writes og_c_Model_writes 2 2 1 dep 13 1 := ⟨⟨12, og_sl_Model, og_T_Model, 102, rfl, by decide, rfl⟩, og_w1982, (og_memP (⟨"OpenGravesModel", "writes", "(I)V"⟩, 102) (List.mem_of_getElem? (i := 143) (by decide +kernel))), og_w17, og_w1983, ⟨by decide +kernel, by decide +kernel, by decide +kernel⟩, h, by decide⟩
theorem d_Model_writes_0 : decode og_c_Model_writes 0 = .ok (.aload_n 0, 1) := by decide +kernel
theorem d_Model_writes_1 : decode og_c_Model_writes 1 = .ok (.getfield 236, 3) := by decide +kernel
theorem d_Model_writes_4 : decode og_c_Model_writes 4 = .ok (.aload_n 0, 1) := by decide +kernel
theorem d_Model_writes_5 : decode og_c_Model_writes 5 = .ok (.getfield 674, 3) := by decide +kernel
theorem d_Model_writes_8 : decode og_c_Model_writes 8 = .ok (.iload_n 1, 1) := by decide +kernel
theorem d_Model_writes_9 : decode og_c_Model_writes 9 = .ok (.iconst (-1), 1) := by decide +kernel
theorem d_Model_writes_10 : decode og_c_Model_writes 10 = .ok (.if_icmp .ne 9, 3) := by decide +kernel
theorem d_Model_writes_13 : decode og_c_Model_writes 13 = .ok (.sipush 255, 3) := by decide +kernel
theorem d_Model_writes_16 : decode og_c_Model_writes 16 = .ok (.goto 4, 3) := by decide +kernel
theorem d_Model_writes_19 : decode og_c_Model_writes 19 = .ok (.iload_n 1, 1) := by decide +kernel
theorem d_Model_writes_20 : decode og_c_Model_writes 20 = .ok (.iastore, 1) := by decide +kernel
theorem d_Model_writes_21 : decode og_c_Model_writes 21 = .ok (.aload_n 0, 1) := by decide +kernel
theorem d_Model_writes_22 : decode og_c_Model_writes 22 = .ok (.dup, 1) := by decide +kernel
theorem d_Model_writes_23 : decode og_c_Model_writes 23 = .ok (.getfield 674, 3) := by decide +kernel
theorem d_Model_writes_26 : decode og_c_Model_writes 26 = .ok (.iconst 1, 1) := by decide +kernel
theorem d_Model_writes_27 : decode og_c_Model_writes 27 = .ok (.iadd, 1) := by decide +kernel
theorem d_Model_writes_28 : decode og_c_Model_writes 28 = .ok (.putfield 674, 3) := by decide +kernel
theorem d_Model_writes_31 : decode og_c_Model_writes 31 = .ok (.return_, 1) := by decide +kernel
def m_Model_writes : og_Dn := og_den [17, 0] 2 2 (og_seq (og_ast 45 (og_fix (fun _ => 1073) (og_loc 0)) (og_get 101 (og_loc 0)) (og_ei (og_cc og_req (og_loc 1) (og_k (-1))) (og_k 255) (og_loc 1))) (og_pop32 og_padd 101 (og_loc 0) (og_k 1)))
set_option maxRecDepth 20000 in
theorem ok_Model_writes : og_MOK og_y_Model_writes og_c_Model_writes 2 2 1 [17, 0] m_Model_writes := og_method (b := 31) (lt' := [(0, 17), (1, 0)]) (by decide +kernel) (by decide) (by decide) (og_sseq (og_iastore (N := 45) (og_f_Model_octet (og_aload_n (i := 0) (t := 15) (j := 0) (by rfl) (by rfl) d_Model_writes_0) og_w1243 d_Model_writes_1) (by rfl) (og_f_Model_octets (og_aload_n (i := 0) (t := 15) (j := 0) (by rfl) (by rfl) d_Model_writes_4) og_w1244 d_Model_writes_5) (og_eite (og_ccn og_n_eq (og_ine (tgt := 19) (og_iload_n (i := 1) (j := 1) (by rfl) (by rfl) d_Model_writes_8) (og_iconst (by decide) d_Model_writes_9) d_Model_writes_10 (by decide))) (og_sipush (by decide) d_Model_writes_13) d_Model_writes_16 (by decide) (og_iload_n (i := 1) (j := 1) (by rfl) (by rfl) d_Model_writes_19)) d_Model_writes_20) (og_qadd_Model_octets (og_aload_n (i := 0) (t := 15) (j := 0) (by rfl) (by rfl) d_Model_writes_21) d_Model_writes_22 d_Model_writes_23 (og_iconst (by decide) d_Model_writes_26) d_Model_writes_27 og_w1244 d_Model_writes_28)) (fun _ => d_Model_writes_31)
abbrev og_c_Model_image : ByteArray := prog_14_method_133_code
abbrev og_y_Model_image : MethodName := ⟨"OpenGravesModel", "image", "()I"⟩
theorem v_Model_image {own : String} {idx dep : Nat} (h : 2 + 1 ≤ dep) : og_sV own idx og_y_Model_image og_c_Model_image 2 0 2 dep 13 0 := ⟨⟨12, og_sl_Model, og_T_Model, 102, rfl, by decide, rfl⟩, og_w1977, og_w1978, og_w17, og_w1979, ⟨by decide +kernel, by decide +kernel, by decide +kernel⟩, h, by decide⟩
theorem d_Model_image_0 : decode og_c_Model_image 0 = .ok (.aload_n 0, 1) := by decide +kernel
theorem d_Model_image_1 : decode og_c_Model_image 1 = .ok (.iconst 0, 1) := by decide +kernel
theorem d_Model_image_2 : decode og_c_Model_image 2 = .ok (.putfield 674, 3) := by decide +kernel
theorem d_Model_image_5 : decode og_c_Model_image 5 = .ok (.aload_n 0, 1) := by decide +kernel
theorem d_Model_image_6 : decode og_c_Model_image 6 = .ok (.aload_n 0, 1) := by decide +kernel
theorem d_Model_image_7 : decode og_c_Model_image 7 = .ok (.getfield 124, 3) := by decide +kernel
theorem d_Model_image_10 : decode og_c_Model_image 10 = .ok (.iconst 0, 1) := by decide +kernel
theorem d_Model_image_11 : decode og_c_Model_image 11 = .ok (.iaload, 1) := by decide +kernel
theorem d_Model_image_12 : decode og_c_Model_image 12 = .ok (.sipush 256, 3) := by decide +kernel
theorem d_Model_image_15 : decode og_c_Model_image 15 = .ok (.idiv, 1) := by decide +kernel
theorem d_Model_image_16 : decode og_c_Model_image 16 = .ok (.invokevirtual 677, 3) := by decide +kernel
theorem d_Model_image_19 : decode og_c_Model_image 19 = .ok (.aload_n 0, 1) := by decide +kernel
theorem d_Model_image_20 : decode og_c_Model_image 20 = .ok (.aload_n 0, 1) := by decide +kernel
theorem d_Model_image_21 : decode og_c_Model_image 21 = .ok (.getfield 124, 3) := by decide +kernel
theorem d_Model_image_24 : decode og_c_Model_image 24 = .ok (.iconst 0, 1) := by decide +kernel
theorem d_Model_image_25 : decode og_c_Model_image 25 = .ok (.iaload, 1) := by decide +kernel
theorem d_Model_image_26 : decode og_c_Model_image 26 = .ok (.sipush 256, 3) := by decide +kernel
theorem d_Model_image_29 : decode og_c_Model_image 29 = .ok (.irem, 1) := by decide +kernel
theorem d_Model_image_30 : decode og_c_Model_image 30 = .ok (.invokevirtual 677, 3) := by decide +kernel
theorem d_Model_image_33 : decode og_c_Model_image 33 = .ok (.iconst 0, 1) := by decide +kernel
theorem d_Model_image_34 : decode og_c_Model_image 34 = .ok (.istore_n 1, 1) := by decide +kernel
theorem d_Model_image_35 : decode og_c_Model_image 35 = .ok (.iload_n 1, 1) := by decide +kernel
theorem d_Model_image_36 : decode og_c_Model_image 36 = .ok (.iconst 3, 1) := by decide +kernel
theorem d_Model_image_37 : decode og_c_Model_image 37 = .ok (.aload_n 0, 1) := by decide +kernel
theorem d_Model_image_38 : decode og_c_Model_image 38 = .ok (.invokevirtual 378, 3) := by decide +kernel
theorem d_Model_image_41 : decode og_c_Model_image 41 = .ok (.imul, 1) := by decide +kernel
theorem d_Model_image_42 : decode og_c_Model_image 42 = .ok (.if_icmp .ge 21, 3) := by decide +kernel
theorem d_Model_image_45 : decode og_c_Model_image 45 = .ok (.aload_n 0, 1) := by decide +kernel
theorem d_Model_image_46 : decode og_c_Model_image 46 = .ok (.aload_n 0, 1) := by decide +kernel
theorem d_Model_image_47 : decode og_c_Model_image 47 = .ok (.getfield 124, 3) := by decide +kernel
theorem d_Model_image_50 : decode og_c_Model_image 50 = .ok (.iconst 1, 1) := by decide +kernel
theorem d_Model_image_51 : decode og_c_Model_image 51 = .ok (.iload_n 1, 1) := by decide +kernel
theorem d_Model_image_52 : decode og_c_Model_image 52 = .ok (.iadd, 1) := by decide +kernel
theorem d_Model_image_53 : decode og_c_Model_image 53 = .ok (.iaload, 1) := by decide +kernel
theorem d_Model_image_54 : decode og_c_Model_image 54 = .ok (.invokevirtual 677, 3) := by decide +kernel
theorem d_Model_image_57 : decode og_c_Model_image 57 = .ok (.iinc 1 1, 3) := by decide +kernel
theorem d_Model_image_60 : decode og_c_Model_image 60 = .ok (.goto (-25), 3) := by decide +kernel
theorem d_Model_image_63 : decode og_c_Model_image 63 = .ok (.iconst 0, 1) := by decide +kernel
theorem d_Model_image_64 : decode og_c_Model_image 64 = .ok (.istore_n 1, 1) := by decide +kernel
theorem d_Model_image_65 : decode og_c_Model_image 65 = .ok (.iload_n 1, 1) := by decide +kernel
theorem d_Model_image_66 : decode og_c_Model_image 66 = .ok (.iconst 3, 1) := by decide +kernel
theorem d_Model_image_67 : decode og_c_Model_image 67 = .ok (.aload_n 0, 1) := by decide +kernel
theorem d_Model_image_68 : decode og_c_Model_image 68 = .ok (.invokevirtual 381, 3) := by decide +kernel
theorem d_Model_image_71 : decode og_c_Model_image 71 = .ok (.imul, 1) := by decide +kernel
theorem d_Model_image_72 : decode og_c_Model_image 72 = .ok (.if_icmp .ge 22, 3) := by decide +kernel
theorem d_Model_image_75 : decode og_c_Model_image 75 = .ok (.aload_n 0, 1) := by decide +kernel
theorem d_Model_image_76 : decode og_c_Model_image 76 = .ok (.aload_n 0, 1) := by decide +kernel
theorem d_Model_image_77 : decode og_c_Model_image 77 = .ok (.getfield 124, 3) := by decide +kernel
theorem d_Model_image_80 : decode og_c_Model_image 80 = .ok (.bipush 19, 2) := by decide +kernel
theorem d_Model_image_82 : decode og_c_Model_image 82 = .ok (.iload_n 1, 1) := by decide +kernel
theorem d_Model_image_83 : decode og_c_Model_image 83 = .ok (.iadd, 1) := by decide +kernel
theorem d_Model_image_84 : decode og_c_Model_image 84 = .ok (.iaload, 1) := by decide +kernel
theorem d_Model_image_85 : decode og_c_Model_image 85 = .ok (.invokevirtual 677, 3) := by decide +kernel
theorem d_Model_image_88 : decode og_c_Model_image 88 = .ok (.iinc 1 1, 3) := by decide +kernel
theorem d_Model_image_91 : decode og_c_Model_image 91 = .ok (.goto (-26), 3) := by decide +kernel
theorem d_Model_image_94 : decode og_c_Model_image 94 = .ok (.aload_n 0, 1) := by decide +kernel
theorem d_Model_image_95 : decode og_c_Model_image 95 = .ok (.aload_n 0, 1) := by decide +kernel
theorem d_Model_image_96 : decode og_c_Model_image 96 = .ok (.getfield 236, 3) := by decide +kernel
theorem d_Model_image_99 : decode og_c_Model_image 99 = .ok (.aload_n 0, 1) := by decide +kernel
theorem d_Model_image_100 : decode og_c_Model_image 100 = .ok (.getfield 674, 3) := by decide +kernel
theorem d_Model_image_103 : decode og_c_Model_image 103 = .ok (.invokestatic 680, 3) := by decide +kernel
theorem d_Model_image_106 : decode og_c_Model_image 106 = .ok (.invokevirtual 677, 3) := by decide +kernel
theorem d_Model_image_109 : decode og_c_Model_image 109 = .ok (.aload_n 0, 1) := by decide +kernel
theorem d_Model_image_110 : decode og_c_Model_image 110 = .ok (.getfield 674, 3) := by decide +kernel
theorem d_Model_image_113 : decode og_c_Model_image 113 = .ok (.ireturn, 1) := by decide +kernel
def m_Model_image : og_Dn := og_den [17] 2 0 (og_seq (og_putf 101 (og_loc 0) (og_k 0)) (og_seq (og_exp (og_call m_Model_writes [og_loc 0, og_div (og_ald 204 (og_fix (fun _ => 1037) (og_loc 0)) (og_k 0)) (og_k 256)])) (og_seq (og_exp (og_call m_Model_writes [og_loc 0, og_rem (og_ald 204 (og_fix (fun _ => 1037) (og_loc 0)) (og_k 0)) (og_k 256)])) (og_cut (og_seq (og_set 1 (og_k 0)) (og_while (og_cc og_rlt (og_loc 1) (og_mul (og_k 3) (og_call m_Model_graveMany [og_loc 0]))) (og_exp (og_call m_Model_writes [og_loc 0, og_ald 204 (og_fix (fun _ => 1037) (og_loc 0)) (og_add (og_k 1) (og_loc 1))])) (og_inc 1 1))) (og_cut (og_seq (og_set 1 (og_k 0)) (og_while (og_cc og_rlt (og_loc 1) (og_mul (og_k 3) (og_call m_Model_personMany [og_loc 0]))) (og_exp (og_call m_Model_writes [og_loc 0, og_ald 204 (og_fix (fun _ => 1037) (og_loc 0)) (og_add (og_k 19) (og_loc 1))])) (og_inc 1 1))) (og_seq (og_exp (og_call m_Model_writes [og_loc 0, og_call m_Model_checked [og_fix (fun _ => 1073) (og_loc 0), og_get 101 (og_loc 0)]])) (og_ret (og_get 101 (og_loc 0)))))))))
set_option maxRecDepth 20000 in
theorem ok_Model_image : og_MOK og_y_Model_image og_c_Model_image 2 0 2 [17] m_Model_image := og_method (b := 0) (lt' := []) (by decide +kernel) (by decide) (by decide) (og_sseq (og_p_Model_octets (og_aload_n (i := 0) (t := 15) (j := 0) (by rfl) (by rfl) d_Model_image_0) (og_iconst (by decide) d_Model_image_1) og_w1244 d_Model_image_2) (og_sseq (og_callVv (og_acons (og_aload_n (i := 0) (t := 15) (j := 0) (by rfl) (by rfl) d_Model_image_5) (og_acons (og_idiv (og_iald (N := 204) (og_f_Model_now (og_aload_n (i := 0) (t := 15) (j := 0) (by rfl) (by rfl) d_Model_image_6) og_w1192 d_Model_image_7) (by rfl) (og_iconst (by decide) d_Model_image_10) d_Model_image_11) (og_sipush (by decide) d_Model_image_12) d_Model_image_15) (og_anil))) ok_Model_writes (v_Model_writes (by decide)) og_w1980 d_Model_image_16) (og_sseq (og_callVv (og_acons (og_aload_n (i := 0) (t := 15) (j := 0) (by rfl) (by rfl) d_Model_image_19) (og_acons (og_irem (og_iald (N := 204) (og_f_Model_now (og_aload_n (i := 0) (t := 15) (j := 0) (by rfl) (by rfl) d_Model_image_20) og_w1192 d_Model_image_21) (by rfl) (og_iconst (by decide) d_Model_image_24) d_Model_image_25) (og_sipush (by decide) d_Model_image_26) d_Model_image_29) (og_anil))) ok_Model_writes (v_Model_writes (by decide)) og_w1980 d_Model_image_30) (og_scut (og_sdrop (lt' := [(0, 17), (1, 0)]) (lt2 := [(0, 17)]) (og_sseq (og_istore_n (i := 1) (lt' := [(0, 17), (1, 0)]) (og_iconst (by decide) d_Model_image_33) (by rfl) (by decide) (by decide) d_Model_image_34) (og_swhile (T := 45) (F := 63) (cp0 := 57) (og_ccn og_n_lt (og_ige (tgt := 63) (og_iload_n (i := 1) (j := 1) (by rfl) (by rfl) d_Model_image_35) (og_imul (og_iconst (by decide) d_Model_image_36) (og_callVi (og_acons (og_aload_n (i := 0) (t := 15) (j := 0) (by rfl) (by rfl) d_Model_image_37) (og_anil)) (by decide) ok_Model_graveMany (v_Model_graveMany (by decide)) og_w1649 d_Model_image_38) d_Model_image_41) d_Model_image_42 (by decide))) (og_callVv (og_acons (og_aload_n (i := 0) (t := 15) (j := 0) (by rfl) (by rfl) d_Model_image_45) (og_acons (og_iald (N := 204) (og_f_Model_now (og_aload_n (i := 0) (t := 15) (j := 0) (by rfl) (by rfl) d_Model_image_46) og_w1192 d_Model_image_47) (by rfl) (og_iadd (og_iconst (by decide) d_Model_image_50) (og_iload_n (i := 1) (j := 1) (by rfl) (by rfl) d_Model_image_51) d_Model_image_52) d_Model_image_53) (og_anil))) ok_Model_writes (v_Model_writes (by decide)) og_w1980 d_Model_image_54) (og_gS (b' := 35) (og_iinc (j := 1) (lt' := [(0, 17), (1, 0)]) (by rfl) (by decide) (by decide) d_Model_image_57) d_Model_image_60 (by decide)))) (by decide)) (og_scut (og_sdrop (lt' := [(0, 17), (1, 0)]) (lt2 := [(0, 17)]) (og_sseq (og_istore_n (i := 1) (lt' := [(0, 17), (1, 0)]) (og_iconst (by decide) d_Model_image_63) (by rfl) (by decide) (by decide) d_Model_image_64) (og_swhile (T := 75) (F := 94) (cp0 := 88) (og_ccn og_n_lt (og_ige (tgt := 94) (og_iload_n (i := 1) (j := 1) (by rfl) (by rfl) d_Model_image_65) (og_imul (og_iconst (by decide) d_Model_image_66) (og_callVi (og_acons (og_aload_n (i := 0) (t := 15) (j := 0) (by rfl) (by rfl) d_Model_image_67) (og_anil)) (by decide) ok_Model_personMany (v_Model_personMany (by decide)) og_w1637 d_Model_image_68) d_Model_image_71) d_Model_image_72 (by decide))) (og_callVv (og_acons (og_aload_n (i := 0) (t := 15) (j := 0) (by rfl) (by rfl) d_Model_image_75) (og_acons (og_iald (N := 204) (og_f_Model_now (og_aload_n (i := 0) (t := 15) (j := 0) (by rfl) (by rfl) d_Model_image_76) og_w1192 d_Model_image_77) (by rfl) (og_iadd (og_bipush (by decide) d_Model_image_80) (og_iload_n (i := 1) (j := 1) (by rfl) (by rfl) d_Model_image_82) d_Model_image_83) d_Model_image_84) (og_anil))) ok_Model_writes (v_Model_writes (by decide)) og_w1980 d_Model_image_85) (og_gS (b' := 65) (og_iinc (j := 1) (lt' := [(0, 17), (1, 0)]) (by rfl) (by decide) (by decide) d_Model_image_88) d_Model_image_91 (by decide)))) (by decide)) (og_sseq (og_callVv (og_acons (og_aload_n (i := 0) (t := 15) (j := 0) (by rfl) (by rfl) d_Model_image_94) (og_acons (og_callSi (og_acons (og_gen (og_f_Model_octet (og_aload_n (i := 0) (t := 15) (j := 0) (by rfl) (by rfl) d_Model_image_95) og_w1243 d_Model_image_96) (by rfl)) (og_acons (og_f_Model_octets (og_aload_n (i := 0) (t := 15) (j := 0) (by rfl) (by rfl) d_Model_image_99) og_w1244 d_Model_image_100) (og_anil))) (by decide) ok_Model_checked (v_Model_checked (by decide)) og_w1984 d_Model_image_103) (og_anil))) ok_Model_writes (v_Model_writes (by decide)) og_w1980 d_Model_image_106) (og_sreti (og_f_Model_octets (og_aload_n (i := 0) (t := 15) (j := 0) (by rfl) (by rfl) d_Model_image_109) og_w1244 d_Model_image_110) d_Model_image_113))))))) (fun h => by cases h)
abbrev og_c_Model_octet : ByteArray := prog_14_method_134_code
abbrev og_y_Model_octet : MethodName := ⟨"OpenGravesModel", "octet", "(I)I"⟩
theorem v_Model_octet {own : String} {idx dep : Nat} (h : 1 + 1 ≤ dep) : og_sV own idx og_y_Model_octet og_c_Model_octet 2 0 1 dep 13 1 := ⟨⟨12, og_sl_Model, og_T_Model, 102, rfl, by decide, rfl⟩, og_w1988, og_w1989, og_w17, og_w1990, ⟨by decide +kernel, by decide +kernel, by decide +kernel⟩, h, by decide⟩
theorem d_Model_octet_0 : decode og_c_Model_octet 0 = .ok (.iload_n 1, 1) := by decide +kernel
theorem d_Model_octet_1 : decode og_c_Model_octet 1 = .ok (.ifCond .lt 20, 3) := by decide +kernel
theorem d_Model_octet_4 : decode og_c_Model_octet 4 = .ok (.iload_n 1, 1) := by decide +kernel
theorem d_Model_octet_5 : decode og_c_Model_octet 5 = .ok (.aload_n 0, 1) := by decide +kernel
theorem d_Model_octet_6 : decode og_c_Model_octet 6 = .ok (.getfield 674, 3) := by decide +kernel
theorem d_Model_octet_9 : decode og_c_Model_octet 9 = .ok (.if_icmp .ge 12, 3) := by decide +kernel
theorem d_Model_octet_12 : decode og_c_Model_octet 12 = .ok (.aload_n 0, 1) := by decide +kernel
theorem d_Model_octet_13 : decode og_c_Model_octet 13 = .ok (.getfield 236, 3) := by decide +kernel
theorem d_Model_octet_16 : decode og_c_Model_octet 16 = .ok (.iload_n 1, 1) := by decide +kernel
theorem d_Model_octet_17 : decode og_c_Model_octet 17 = .ok (.iaload, 1) := by decide +kernel
theorem d_Model_octet_18 : decode og_c_Model_octet 18 = .ok (.goto 4, 3) := by decide +kernel
theorem d_Model_octet_21 : decode og_c_Model_octet 21 = .ok (.iconst (-1), 1) := by decide +kernel
theorem d_Model_octet_22 : decode og_c_Model_octet 22 = .ok (.ireturn, 1) := by decide +kernel
def m_Model_octet : og_Dn := og_den [17, 0] 2 0 (og_ret (og_ei (og_and (og_cc og_rge (og_loc 1) (og_k 0)) (og_cc og_rlt (og_loc 1) (og_get 101 (og_loc 0)))) (og_ald 45 (og_fix (fun _ => 1073) (og_loc 0)) (og_loc 1)) (og_k (-1))))
set_option maxRecDepth 20000 in
theorem ok_Model_octet : og_MOK og_y_Model_octet og_c_Model_octet 2 0 1 [17, 0] m_Model_octet := og_method (b := 0) (lt' := []) (by decide +kernel) (by decide) (by decide) (og_sreti (og_eite (og_cand (og_ccn og_n_ge (og_zlt (tgt := 21) (og_iload_n (i := 1) (j := 1) (by rfl) (by rfl) d_Model_octet_0) d_Model_octet_1 (by decide))) (og_ccn og_n_lt (og_ige (tgt := 21) (og_iload_n (i := 1) (j := 1) (by rfl) (by rfl) d_Model_octet_4) (og_f_Model_octets (og_aload_n (i := 0) (t := 15) (j := 0) (by rfl) (by rfl) d_Model_octet_5) og_w1244 d_Model_octet_6) d_Model_octet_9 (by decide)))) (og_iald (N := 45) (og_f_Model_octet (og_aload_n (i := 0) (t := 15) (j := 0) (by rfl) (by rfl) d_Model_octet_12) og_w1243 d_Model_octet_13) (by rfl) (og_iload_n (i := 1) (j := 1) (by rfl) (by rfl) d_Model_octet_16) d_Model_octet_17) d_Model_octet_18 (by decide) (og_iconst (by decide) d_Model_octet_21)) d_Model_octet_22) (fun h => by cases h)
abbrev og_c_Model_isGraveTold : ByteArray := prog_14_method_135_code
abbrev og_y_Model_isGraveTold : MethodName := ⟨"OpenGravesModel", "isGraveTold", "(II)Z"⟩
theorem v_Model_isGraveTold {own : String} {idx dep : Nat} (h : 3 + 1 ≤ dep) : og_sV own idx og_y_Model_isGraveTold og_c_Model_isGraveTold 5 3 3 dep 13 2 := ⟨⟨12, og_sl_Model, og_T_Model, 102, rfl, by decide, rfl⟩, og_w2001, (og_memP (⟨"OpenGravesModel", "isGraveTold", "(II)Z"⟩, 102) (List.mem_of_getElem? (i := 145) (by decide +kernel))), og_w17, og_w2002, ⟨by decide +kernel, by decide +kernel, by decide +kernel⟩, h, by decide⟩
theorem d_Model_isGraveTold_0 : decode og_c_Model_isGraveTold 0 = .ok (.aload_n 0, 1) := by decide +kernel
theorem d_Model_isGraveTold_1 : decode og_c_Model_isGraveTold 1 = .ok (.getfield 7, 3) := by decide +kernel
theorem d_Model_isGraveTold_4 : decode og_c_Model_isGraveTold 4 = .ok (.iload_n 1, 1) := by decide +kernel
theorem d_Model_isGraveTold_5 : decode og_c_Model_isGraveTold 5 = .ok (.iconst 2, 1) := by decide +kernel
theorem d_Model_isGraveTold_6 : decode og_c_Model_isGraveTold 6 = .ok (.iadd, 1) := by decide +kernel
theorem d_Model_isGraveTold_7 : decode og_c_Model_isGraveTold 7 = .ok (.iaload, 1) := by decide +kernel
theorem d_Model_isGraveTold_8 : decode og_c_Model_isGraveTold 8 = .ok (.istore_n 3, 1) := by decide +kernel
theorem d_Model_isGraveTold_9 : decode og_c_Model_isGraveTold 9 = .ok (.aload_n 0, 1) := by decide +kernel
theorem d_Model_isGraveTold_10 : decode og_c_Model_isGraveTold 10 = .ok (.getfield 7, 3) := by decide +kernel
theorem d_Model_isGraveTold_13 : decode og_c_Model_isGraveTold 13 = .ok (.iload_n 1, 1) := by decide +kernel
theorem d_Model_isGraveTold_14 : decode og_c_Model_isGraveTold 14 = .ok (.iaload, 1) := by decide +kernel
theorem d_Model_isGraveTold_15 : decode og_c_Model_isGraveTold 15 = .ok (.bipush 9, 2) := by decide +kernel
theorem d_Model_isGraveTold_17 : decode og_c_Model_isGraveTold 17 = .ok (.if_icmp .gt 16, 3) := by decide +kernel
theorem d_Model_isGraveTold_20 : decode og_c_Model_isGraveTold 20 = .ok (.aload_n 0, 1) := by decide +kernel
theorem d_Model_isGraveTold_21 : decode og_c_Model_isGraveTold 21 = .ok (.getfield 7, 3) := by decide +kernel
theorem d_Model_isGraveTold_24 : decode og_c_Model_isGraveTold 24 = .ok (.iload_n 1, 1) := by decide +kernel
theorem d_Model_isGraveTold_25 : decode og_c_Model_isGraveTold 25 = .ok (.iconst 1, 1) := by decide +kernel
theorem d_Model_isGraveTold_26 : decode og_c_Model_isGraveTold 26 = .ok (.iadd, 1) := by decide +kernel
theorem d_Model_isGraveTold_27 : decode og_c_Model_isGraveTold 27 = .ok (.iaload, 1) := by decide +kernel
theorem d_Model_isGraveTold_28 : decode og_c_Model_isGraveTold 28 = .ok (.bipush 30, 2) := by decide +kernel
theorem d_Model_isGraveTold_30 : decode og_c_Model_isGraveTold 30 = .ok (.if_icmp .le 5, 3) := by decide +kernel
theorem d_Model_isGraveTold_33 : decode og_c_Model_isGraveTold 33 = .ok (.iconst 0, 1) := by decide +kernel
theorem d_Model_isGraveTold_34 : decode og_c_Model_isGraveTold 34 = .ok (.ireturn, 1) := by decide +kernel
theorem d_Model_isGraveTold_35 : decode og_c_Model_isGraveTold 35 = .ok (.iload_n 3, 1) := by decide +kernel
theorem d_Model_isGraveTold_36 : decode og_c_Model_isGraveTold 36 = .ok (.sipush 255, 3) := by decide +kernel
theorem d_Model_isGraveTold_39 : decode og_c_Model_isGraveTold 39 = .ok (.if_icmp .ne 5, 3) := by decide +kernel
theorem d_Model_isGraveTold_42 : decode og_c_Model_isGraveTold 42 = .ok (.iconst 1, 1) := by decide +kernel
theorem d_Model_isGraveTold_43 : decode og_c_Model_isGraveTold 43 = .ok (.ireturn, 1) := by decide +kernel
theorem d_Model_isGraveTold_44 : decode og_c_Model_isGraveTold 44 = .ok (.aload_n 0, 1) := by decide +kernel
theorem d_Model_isGraveTold_45 : decode og_c_Model_isGraveTold 45 = .ok (.iload_n 3, 1) := by decide +kernel
theorem d_Model_isGraveTold_46 : decode og_c_Model_isGraveTold 46 = .ok (.invokevirtual 489, 3) := by decide +kernel
theorem d_Model_isGraveTold_49 : decode og_c_Model_isGraveTold 49 = .ok (.ifCond .eq 29, 3) := by decide +kernel
theorem d_Model_isGraveTold_52 : decode og_c_Model_isGraveTold 52 = .ok (.aload_n 0, 1) := by decide +kernel
theorem d_Model_isGraveTold_53 : decode og_c_Model_isGraveTold 53 = .ok (.iload_n 3, 1) := by decide +kernel
theorem d_Model_isGraveTold_54 : decode og_c_Model_isGraveTold 54 = .ok (.iload_n 1, 1) := by decide +kernel
theorem d_Model_isGraveTold_55 : decode og_c_Model_isGraveTold 55 = .ok (.iconst 2, 1) := by decide +kernel
theorem d_Model_isGraveTold_56 : decode og_c_Model_isGraveTold 56 = .ok (.isub, 1) := by decide +kernel
theorem d_Model_isGraveTold_57 : decode og_c_Model_isGraveTold 57 = .ok (.iconst 3, 1) := by decide +kernel
theorem d_Model_isGraveTold_58 : decode og_c_Model_isGraveTold 58 = .ok (.idiv, 1) := by decide +kernel
theorem d_Model_isGraveTold_59 : decode og_c_Model_isGraveTold 59 = .ok (.invokevirtual 431, 3) := by decide +kernel
theorem d_Model_isGraveTold_62 : decode og_c_Model_isGraveTold 62 = .ok (.ifCond .eq 16, 3) := by decide +kernel
theorem d_Model_isGraveTold_65 : decode og_c_Model_isGraveTold 65 = .ok (.aload_n 0, 1) := by decide +kernel
theorem d_Model_isGraveTold_66 : decode og_c_Model_isGraveTold 66 = .ok (.getfield 7, 3) := by decide +kernel
theorem d_Model_isGraveTold_69 : decode og_c_Model_isGraveTold 69 = .ok (.iload_n 2, 1) := by decide +kernel
theorem d_Model_isGraveTold_70 : decode og_c_Model_isGraveTold 70 = .ok (.iconst 3, 1) := by decide +kernel
theorem d_Model_isGraveTold_71 : decode og_c_Model_isGraveTold 71 = .ok (.iload_n 3, 1) := by decide +kernel
theorem d_Model_isGraveTold_72 : decode og_c_Model_isGraveTold 72 = .ok (.imul, 1) := by decide +kernel
theorem d_Model_isGraveTold_73 : decode og_c_Model_isGraveTold 73 = .ok (.iadd, 1) := by decide +kernel
theorem d_Model_isGraveTold_74 : decode og_c_Model_isGraveTold 74 = .ok (.iaload, 1) := by decide +kernel
theorem d_Model_isGraveTold_75 : decode og_c_Model_isGraveTold 75 = .ok (.ifCond .eq 5, 3) := by decide +kernel
theorem d_Model_isGraveTold_78 : decode og_c_Model_isGraveTold 78 = .ok (.iconst 0, 1) := by decide +kernel
theorem d_Model_isGraveTold_79 : decode og_c_Model_isGraveTold 79 = .ok (.ireturn, 1) := by decide +kernel
theorem d_Model_isGraveTold_80 : decode og_c_Model_isGraveTold 80 = .ok (.iconst 2, 1) := by decide +kernel
theorem d_Model_isGraveTold_81 : decode og_c_Model_isGraveTold 81 = .ok (.istore 4, 2) := by decide +kernel
theorem d_Model_isGraveTold_83 : decode og_c_Model_isGraveTold 83 = .ok (.iload 4, 2) := by decide +kernel
theorem d_Model_isGraveTold_85 : decode og_c_Model_isGraveTold 85 = .ok (.iload_n 1, 1) := by decide +kernel
theorem d_Model_isGraveTold_86 : decode og_c_Model_isGraveTold 86 = .ok (.if_icmp .ge 24, 3) := by decide +kernel
theorem d_Model_isGraveTold_89 : decode og_c_Model_isGraveTold 89 = .ok (.aload_n 0, 1) := by decide +kernel
theorem d_Model_isGraveTold_90 : decode og_c_Model_isGraveTold 90 = .ok (.getfield 7, 3) := by decide +kernel
theorem d_Model_isGraveTold_93 : decode og_c_Model_isGraveTold 93 = .ok (.iload 4, 2) := by decide +kernel
theorem d_Model_isGraveTold_95 : decode og_c_Model_isGraveTold 95 = .ok (.iconst 2, 1) := by decide +kernel
theorem d_Model_isGraveTold_96 : decode og_c_Model_isGraveTold 96 = .ok (.iadd, 1) := by decide +kernel
theorem d_Model_isGraveTold_97 : decode og_c_Model_isGraveTold 97 = .ok (.iaload, 1) := by decide +kernel
theorem d_Model_isGraveTold_98 : decode og_c_Model_isGraveTold 98 = .ok (.iload_n 3, 1) := by decide +kernel
theorem d_Model_isGraveTold_99 : decode og_c_Model_isGraveTold 99 = .ok (.if_icmp .ne 5, 3) := by decide +kernel
theorem d_Model_isGraveTold_102 : decode og_c_Model_isGraveTold 102 = .ok (.iconst 0, 1) := by decide +kernel
theorem d_Model_isGraveTold_103 : decode og_c_Model_isGraveTold 103 = .ok (.ireturn, 1) := by decide +kernel
theorem d_Model_isGraveTold_104 : decode og_c_Model_isGraveTold 104 = .ok (.iinc 4 3, 3) := by decide +kernel
theorem d_Model_isGraveTold_107 : decode og_c_Model_isGraveTold 107 = .ok (.goto (-24), 3) := by decide +kernel
theorem d_Model_isGraveTold_110 : decode og_c_Model_isGraveTold 110 = .ok (.iconst 1, 1) := by decide +kernel
theorem d_Model_isGraveTold_111 : decode og_c_Model_isGraveTold 111 = .ok (.ireturn, 1) := by decide +kernel
def m_Model_isGraveTold : og_Dn := og_den [17, 0, 0] 5 3 (og_seq (og_set 3 (og_ald 1600 (og_fix (fun _ => 1001) (og_loc 0)) (og_add (og_loc 1) (og_k 2)))) (og_seq (og_if (og_or (og_cc og_rgt (og_ald 1600 (og_fix (fun _ => 1001) (og_loc 0)) (og_loc 1)) (og_k 9)) (og_cc og_rgt (og_ald 1600 (og_fix (fun _ => 1001) (og_loc 0)) (og_add (og_loc 1) (og_k 1))) (og_k 30))) (og_retz (og_k 0)) (og_skip)) (og_seq (og_if (og_cc og_req (og_loc 3) (og_k 255)) (og_retz (og_k 1)) (og_skip)) (og_seq (og_if (og_or (og_or (og_not (og_cb (og_call m_Model_isPerson [og_loc 0, og_loc 3]))) (og_not (og_cb (og_call m_Model_doesFit [og_loc 0, og_loc 3, og_div (og_sub (og_loc 1) (og_k 2)) (og_k 3)])))) (og_cc og_rne (og_ald 1600 (og_fix (fun _ => 1001) (og_loc 0)) (og_add (og_loc 2) (og_mul (og_k 3) (og_loc 3)))) (og_k 0))) (og_retz (og_k 0)) (og_skip)) (og_cut (og_seq (og_set 4 (og_k 2)) (og_while (og_cc og_rlt (og_loc 4) (og_loc 1)) (og_if (og_cc og_req (og_ald 1600 (og_fix (fun _ => 1001) (og_loc 0)) (og_add (og_loc 4) (og_k 2))) (og_loc 3)) (og_retz (og_k 0)) (og_skip)) (og_inc 4 3))) (og_retz (og_k 1)))))))
set_option maxRecDepth 20000 in
theorem ok_Model_isGraveTold : og_MOK og_y_Model_isGraveTold og_c_Model_isGraveTold 5 3 3 [17, 0, 0] m_Model_isGraveTold := og_method (b := 0) (lt' := []) (by decide +kernel) (by decide) (by decide) (og_sseq (og_istore_n (i := 3) (lt' := [(0, 17), (1, 0), (2, 0), (3, 0)]) (og_iald (N := 1600) (og_f_Model_tape (og_aload_n (i := 0) (t := 15) (j := 0) (by rfl) (by rfl) d_Model_isGraveTold_0) og_w1143 d_Model_isGraveTold_1) (by rfl) (og_iadd (og_iload_n (i := 1) (j := 1) (by rfl) (by rfl) d_Model_isGraveTold_4) (og_iconst (by decide) d_Model_isGraveTold_5) d_Model_isGraveTold_6) d_Model_isGraveTold_7) (by rfl) (by decide) (by decide) d_Model_isGraveTold_8) (og_sseq (og_sif (T := 33) (F := 35) (og_cor (og_igt (tgt := 33) (og_iald (N := 1600) (og_f_Model_tape (og_aload_n (i := 0) (t := 15) (j := 0) (by rfl) (by rfl) d_Model_isGraveTold_9) og_w1143 d_Model_isGraveTold_10) (by rfl) (og_iload_n (i := 1) (j := 1) (by rfl) (by rfl) d_Model_isGraveTold_13) d_Model_isGraveTold_14) (og_bipush (by decide) d_Model_isGraveTold_15) d_Model_isGraveTold_17 (by decide)) (og_ccn og_n_gt (og_ile (tgt := 35) (og_iald (N := 1600) (og_f_Model_tape (og_aload_n (i := 0) (t := 15) (j := 0) (by rfl) (by rfl) d_Model_isGraveTold_20) og_w1143 d_Model_isGraveTold_21) (by rfl) (og_iadd (og_iload_n (i := 1) (j := 1) (by rfl) (by rfl) d_Model_isGraveTold_24) (og_iconst (by decide) d_Model_isGraveTold_25) d_Model_isGraveTold_26) d_Model_isGraveTold_27) (og_bipush (by decide) d_Model_isGraveTold_28) d_Model_isGraveTold_30 (by decide)))) (og_sretz (og_iconst (by decide) d_Model_isGraveTold_33) d_Model_isGraveTold_34) (og_sskip)) (og_sseq (og_sif (T := 42) (F := 44) (og_ccn og_n_eq (og_ine (tgt := 44) (og_iload_n (i := 3) (j := 3) (by rfl) (by rfl) d_Model_isGraveTold_35) (og_sipush (by decide) d_Model_isGraveTold_36) d_Model_isGraveTold_39 (by decide))) (og_sretz (og_iconst (by decide) d_Model_isGraveTold_42) d_Model_isGraveTold_43) (og_sskip)) (og_sseq (og_sif (T := 78) (F := 80) (og_cor (og_cor (og_cnot (og_cbeq (tgt := 78) (og_callVz (og_acons (og_aload_n (i := 0) (t := 15) (j := 0) (by rfl) (by rfl) d_Model_isGraveTold_44) (og_acons (og_iload_n (i := 3) (j := 3) (by rfl) (by rfl) d_Model_isGraveTold_45) (og_anil))) (by decide) ok_Model_isPerson (v_Model_isPerson (by decide)) og_w1690 d_Model_isGraveTold_46) d_Model_isGraveTold_49 (by decide))) (og_cnot (og_cbeq (tgt := 78) (og_callVz (og_acons (og_aload_n (i := 0) (t := 15) (j := 0) (by rfl) (by rfl) d_Model_isGraveTold_52) (og_acons (og_iload_n (i := 3) (j := 3) (by rfl) (by rfl) d_Model_isGraveTold_53) (og_acons (og_idiv (og_isub (og_iload_n (i := 1) (j := 1) (by rfl) (by rfl) d_Model_isGraveTold_54) (og_iconst (by decide) d_Model_isGraveTold_55) d_Model_isGraveTold_56) (og_iconst (by decide) d_Model_isGraveTold_57) d_Model_isGraveTold_58) (og_anil)))) (by decide) ok_Model_doesFit (v_Model_doesFit (by decide)) og_w1763 d_Model_isGraveTold_59) d_Model_isGraveTold_62 (by decide)))) (og_ccn og_n_ne (og_zeq (tgt := 80) (og_iald (N := 1600) (og_f_Model_tape (og_aload_n (i := 0) (t := 15) (j := 0) (by rfl) (by rfl) d_Model_isGraveTold_65) og_w1143 d_Model_isGraveTold_66) (by rfl) (og_iadd (og_iload_n (i := 2) (j := 2) (by rfl) (by rfl) d_Model_isGraveTold_69) (og_imul (og_iconst (by decide) d_Model_isGraveTold_70) (og_iload_n (i := 3) (j := 3) (by rfl) (by rfl) d_Model_isGraveTold_71) d_Model_isGraveTold_72) d_Model_isGraveTold_73) d_Model_isGraveTold_74) d_Model_isGraveTold_75 (by decide)))) (og_sretz (og_iconst (by decide) d_Model_isGraveTold_78) d_Model_isGraveTold_79) (og_sskip)) (og_scut (og_sdrop (lt' := [(0, 17), (1, 0), (2, 0), (3, 0), (4, 0)]) (lt2 := [(0, 17), (1, 0), (2, 0), (3, 0)]) (og_sseq (og_istore (i := 4) (lt' := [(0, 17), (1, 0), (2, 0), (3, 0), (4, 0)]) (og_iconst (by decide) d_Model_isGraveTold_80) (by decide) (by decide) d_Model_isGraveTold_81) (og_swhile (T := 89) (F := 110) (cp0 := 104) (og_ccn og_n_lt (og_ige (tgt := 110) (og_iload (i := 4) (j := 4) (by rfl) d_Model_isGraveTold_83) (og_iload_n (i := 1) (j := 1) (by rfl) (by rfl) d_Model_isGraveTold_85) d_Model_isGraveTold_86 (by decide))) (og_sif (T := 102) (F := 104) (og_ccn og_n_eq (og_ine (tgt := 104) (og_iald (N := 1600) (og_f_Model_tape (og_aload_n (i := 0) (t := 15) (j := 0) (by rfl) (by rfl) d_Model_isGraveTold_89) og_w1143 d_Model_isGraveTold_90) (by rfl) (og_iadd (og_iload (i := 4) (j := 4) (by rfl) d_Model_isGraveTold_93) (og_iconst (by decide) d_Model_isGraveTold_95) d_Model_isGraveTold_96) d_Model_isGraveTold_97) (og_iload_n (i := 3) (j := 3) (by rfl) (by rfl) d_Model_isGraveTold_98) d_Model_isGraveTold_99 (by decide))) (og_sretz (og_iconst (by decide) d_Model_isGraveTold_102) d_Model_isGraveTold_103) (og_sskip)) (og_gS (b' := 83) (og_iinc (j := 4) (lt' := [(0, 17), (1, 0), (2, 0), (3, 0), (4, 0)]) (by rfl) (by decide) (by decide) d_Model_isGraveTold_104) d_Model_isGraveTold_107 (by decide)))) (by decide)) (og_sretz (og_iconst (by decide) d_Model_isGraveTold_110) d_Model_isGraveTold_111)))))) (fun h => by cases h)
abbrev og_c_Model_isImage : ByteArray := prog_14_method_136_code
abbrev og_y_Model_isImage : MethodName := ⟨"OpenGravesModel", "isImage", "(I)Z"⟩
theorem v_Model_isImage {own : String} {idx dep : Nat} (h : 4 + 1 ≤ dep) : og_sV own idx og_y_Model_isImage og_c_Model_isImage 4 3 4 dep 13 1 := ⟨⟨12, og_sl_Model, og_T_Model, 102, rfl, by decide, rfl⟩, og_w1997, (og_memP (⟨"OpenGravesModel", "isImage", "(I)Z"⟩, 102) (List.mem_of_getElem? (i := 144) (by decide +kernel))), og_w17, og_w1998, ⟨by decide +kernel, by decide +kernel, by decide +kernel⟩, h, by decide⟩
theorem d_Model_isImage_0 : decode og_c_Model_isImage 0 = .ok (.iconst 2, 1) := by decide +kernel
theorem d_Model_isImage_1 : decode og_c_Model_isImage 1 = .ok (.iconst 3, 1) := by decide +kernel
theorem d_Model_isImage_2 : decode og_c_Model_isImage 2 = .ok (.aload_n 0, 1) := by decide +kernel
theorem d_Model_isImage_3 : decode og_c_Model_isImage 3 = .ok (.invokevirtual 378, 3) := by decide +kernel
theorem d_Model_isImage_6 : decode og_c_Model_isImage 6 = .ok (.imul, 1) := by decide +kernel
theorem d_Model_isImage_7 : decode og_c_Model_isImage 7 = .ok (.iadd, 1) := by decide +kernel
theorem d_Model_isImage_8 : decode og_c_Model_isImage 8 = .ok (.istore_n 2, 1) := by decide +kernel
theorem d_Model_isImage_9 : decode og_c_Model_isImage 9 = .ok (.iload_n 1, 1) := by decide +kernel
theorem d_Model_isImage_10 : decode og_c_Model_isImage 10 = .ok (.iload_n 2, 1) := by decide +kernel
theorem d_Model_isImage_11 : decode og_c_Model_isImage 11 = .ok (.iconst 3, 1) := by decide +kernel
theorem d_Model_isImage_12 : decode og_c_Model_isImage 12 = .ok (.aload_n 0, 1) := by decide +kernel
theorem d_Model_isImage_13 : decode og_c_Model_isImage 13 = .ok (.invokevirtual 381, 3) := by decide +kernel
theorem d_Model_isImage_16 : decode og_c_Model_isImage 16 = .ok (.imul, 1) := by decide +kernel
theorem d_Model_isImage_17 : decode og_c_Model_isImage 17 = .ok (.iadd, 1) := by decide +kernel
theorem d_Model_isImage_18 : decode og_c_Model_isImage 18 = .ok (.iconst 1, 1) := by decide +kernel
theorem d_Model_isImage_19 : decode og_c_Model_isImage 19 = .ok (.iadd, 1) := by decide +kernel
theorem d_Model_isImage_20 : decode og_c_Model_isImage 20 = .ok (.if_icmp .ne 47, 3) := by decide +kernel
theorem d_Model_isImage_23 : decode og_c_Model_isImage 23 = .ok (.aload_n 0, 1) := by decide +kernel
theorem d_Model_isImage_24 : decode og_c_Model_isImage 24 = .ok (.getfield 7, 3) := by decide +kernel
theorem d_Model_isImage_27 : decode og_c_Model_isImage 27 = .ok (.iload_n 1, 1) := by decide +kernel
theorem d_Model_isImage_28 : decode og_c_Model_isImage 28 = .ok (.iconst 1, 1) := by decide +kernel
theorem d_Model_isImage_29 : decode og_c_Model_isImage 29 = .ok (.isub, 1) := by decide +kernel
theorem d_Model_isImage_30 : decode og_c_Model_isImage 30 = .ok (.iaload, 1) := by decide +kernel
theorem d_Model_isImage_31 : decode og_c_Model_isImage 31 = .ok (.aload_n 0, 1) := by decide +kernel
theorem d_Model_isImage_32 : decode og_c_Model_isImage 32 = .ok (.getfield 7, 3) := by decide +kernel
theorem d_Model_isImage_35 : decode og_c_Model_isImage 35 = .ok (.iload_n 1, 1) := by decide +kernel
theorem d_Model_isImage_36 : decode og_c_Model_isImage 36 = .ok (.iconst 1, 1) := by decide +kernel
theorem d_Model_isImage_37 : decode og_c_Model_isImage 37 = .ok (.isub, 1) := by decide +kernel
theorem d_Model_isImage_38 : decode og_c_Model_isImage 38 = .ok (.invokestatic 680, 3) := by decide +kernel
theorem d_Model_isImage_41 : decode og_c_Model_isImage 41 = .ok (.if_icmp .ne 26, 3) := by decide +kernel
theorem d_Model_isImage_44 : decode og_c_Model_isImage 44 = .ok (.sipush 256, 3) := by decide +kernel
theorem d_Model_isImage_47 : decode og_c_Model_isImage 47 = .ok (.aload_n 0, 1) := by decide +kernel
theorem d_Model_isImage_48 : decode og_c_Model_isImage 48 = .ok (.getfield 7, 3) := by decide +kernel
theorem d_Model_isImage_51 : decode og_c_Model_isImage 51 = .ok (.iconst 0, 1) := by decide +kernel
theorem d_Model_isImage_52 : decode og_c_Model_isImage 52 = .ok (.iaload, 1) := by decide +kernel
theorem d_Model_isImage_53 : decode og_c_Model_isImage 53 = .ok (.imul, 1) := by decide +kernel
theorem d_Model_isImage_54 : decode og_c_Model_isImage 54 = .ok (.aload_n 0, 1) := by decide +kernel
theorem d_Model_isImage_55 : decode og_c_Model_isImage 55 = .ok (.getfield 7, 3) := by decide +kernel
theorem d_Model_isImage_58 : decode og_c_Model_isImage 58 = .ok (.iconst 1, 1) := by decide +kernel
theorem d_Model_isImage_59 : decode og_c_Model_isImage 59 = .ok (.iaload, 1) := by decide +kernel
theorem d_Model_isImage_60 : decode og_c_Model_isImage 60 = .ok (.iadd, 1) := by decide +kernel
theorem d_Model_isImage_61 : decode og_c_Model_isImage 61 = .ok (.sipush 999, 3) := by decide +kernel
theorem d_Model_isImage_64 : decode og_c_Model_isImage 64 = .ok (.if_icmp .le 5, 3) := by decide +kernel
theorem d_Model_isImage_67 : decode og_c_Model_isImage 67 = .ok (.iconst 0, 1) := by decide +kernel
theorem d_Model_isImage_68 : decode og_c_Model_isImage 68 = .ok (.ireturn, 1) := by decide +kernel
theorem d_Model_isImage_69 : decode og_c_Model_isImage 69 = .ok (.iload_n 2, 1) := by decide +kernel
theorem d_Model_isImage_70 : decode og_c_Model_isImage 70 = .ok (.istore_n 3, 1) := by decide +kernel
theorem d_Model_isImage_71 : decode og_c_Model_isImage 71 = .ok (.iload_n 3, 1) := by decide +kernel
theorem d_Model_isImage_72 : decode og_c_Model_isImage 72 = .ok (.iload_n 1, 1) := by decide +kernel
theorem d_Model_isImage_73 : decode og_c_Model_isImage 73 = .ok (.iconst 1, 1) := by decide +kernel
theorem d_Model_isImage_74 : decode og_c_Model_isImage 74 = .ok (.isub, 1) := by decide +kernel
theorem d_Model_isImage_75 : decode og_c_Model_isImage 75 = .ok (.if_icmp .ge 47, 3) := by decide +kernel
theorem d_Model_isImage_78 : decode og_c_Model_isImage 78 = .ok (.aload_n 0, 1) := by decide +kernel
theorem d_Model_isImage_79 : decode og_c_Model_isImage 79 = .ok (.getfield 7, 3) := by decide +kernel
theorem d_Model_isImage_82 : decode og_c_Model_isImage 82 = .ok (.iload_n 3, 1) := by decide +kernel
theorem d_Model_isImage_83 : decode og_c_Model_isImage 83 = .ok (.iaload, 1) := by decide +kernel
theorem d_Model_isImage_84 : decode og_c_Model_isImage 84 = .ok (.iconst 1, 1) := by decide +kernel
theorem d_Model_isImage_85 : decode og_c_Model_isImage 85 = .ok (.if_icmp .gt 29, 3) := by decide +kernel
theorem d_Model_isImage_88 : decode og_c_Model_isImage 88 = .ok (.aload_n 0, 1) := by decide +kernel
theorem d_Model_isImage_89 : decode og_c_Model_isImage 89 = .ok (.getfield 7, 3) := by decide +kernel
theorem d_Model_isImage_92 : decode og_c_Model_isImage 92 = .ok (.iload_n 3, 1) := by decide +kernel
theorem d_Model_isImage_93 : decode og_c_Model_isImage 93 = .ok (.iconst 1, 1) := by decide +kernel
theorem d_Model_isImage_94 : decode og_c_Model_isImage 94 = .ok (.iadd, 1) := by decide +kernel
theorem d_Model_isImage_95 : decode og_c_Model_isImage 95 = .ok (.iaload, 1) := by decide +kernel
theorem d_Model_isImage_96 : decode og_c_Model_isImage 96 = .ok (.bipush 99, 2) := by decide +kernel
theorem d_Model_isImage_98 : decode og_c_Model_isImage 98 = .ok (.if_icmp .gt 16, 3) := by decide +kernel
theorem d_Model_isImage_101 : decode og_c_Model_isImage 101 = .ok (.aload_n 0, 1) := by decide +kernel
theorem d_Model_isImage_102 : decode og_c_Model_isImage 102 = .ok (.getfield 7, 3) := by decide +kernel
theorem d_Model_isImage_105 : decode og_c_Model_isImage 105 = .ok (.iload_n 3, 1) := by decide +kernel
theorem d_Model_isImage_106 : decode og_c_Model_isImage 106 = .ok (.iconst 2, 1) := by decide +kernel
theorem d_Model_isImage_107 : decode og_c_Model_isImage 107 = .ok (.iadd, 1) := by decide +kernel
theorem d_Model_isImage_108 : decode og_c_Model_isImage 108 = .ok (.iaload, 1) := by decide +kernel
theorem d_Model_isImage_109 : decode og_c_Model_isImage 109 = .ok (.bipush 9, 2) := by decide +kernel
theorem d_Model_isImage_111 : decode og_c_Model_isImage 111 = .ok (.if_icmp .le 5, 3) := by decide +kernel
theorem d_Model_isImage_114 : decode og_c_Model_isImage 114 = .ok (.iconst 0, 1) := by decide +kernel
theorem d_Model_isImage_115 : decode og_c_Model_isImage 115 = .ok (.ireturn, 1) := by decide +kernel
theorem d_Model_isImage_116 : decode og_c_Model_isImage 116 = .ok (.iinc 3 3, 3) := by decide +kernel
theorem d_Model_isImage_119 : decode og_c_Model_isImage 119 = .ok (.goto (-48), 3) := by decide +kernel
theorem d_Model_isImage_122 : decode og_c_Model_isImage 122 = .ok (.iconst 2, 1) := by decide +kernel
theorem d_Model_isImage_123 : decode og_c_Model_isImage 123 = .ok (.istore_n 3, 1) := by decide +kernel
theorem d_Model_isImage_124 : decode og_c_Model_isImage 124 = .ok (.iload_n 3, 1) := by decide +kernel
theorem d_Model_isImage_125 : decode og_c_Model_isImage 125 = .ok (.iload_n 2, 1) := by decide +kernel
theorem d_Model_isImage_126 : decode og_c_Model_isImage 126 = .ok (.if_icmp .ge 20, 3) := by decide +kernel
theorem d_Model_isImage_129 : decode og_c_Model_isImage 129 = .ok (.aload_n 0, 1) := by decide +kernel
theorem d_Model_isImage_130 : decode og_c_Model_isImage 130 = .ok (.iload_n 3, 1) := by decide +kernel
theorem d_Model_isImage_131 : decode og_c_Model_isImage 131 = .ok (.iload_n 2, 1) := by decide +kernel
theorem d_Model_isImage_132 : decode og_c_Model_isImage 132 = .ok (.invokevirtual 684, 3) := by decide +kernel
theorem d_Model_isImage_135 : decode og_c_Model_isImage 135 = .ok (.ifCond .ne 5, 3) := by decide +kernel
theorem d_Model_isImage_138 : decode og_c_Model_isImage 138 = .ok (.iconst 0, 1) := by decide +kernel
theorem d_Model_isImage_139 : decode og_c_Model_isImage 139 = .ok (.ireturn, 1) := by decide +kernel
theorem d_Model_isImage_140 : decode og_c_Model_isImage 140 = .ok (.iinc 3 3, 3) := by decide +kernel
theorem d_Model_isImage_143 : decode og_c_Model_isImage 143 = .ok (.goto (-19), 3) := by decide +kernel
theorem d_Model_isImage_146 : decode og_c_Model_isImage 146 = .ok (.iconst 1, 1) := by decide +kernel
theorem d_Model_isImage_147 : decode og_c_Model_isImage 147 = .ok (.ireturn, 1) := by decide +kernel
def m_Model_isImage : og_Dn := og_den [17, 0] 4 3 (og_seq (og_set 2 (og_add (og_k 2) (og_mul (og_k 3) (og_call m_Model_graveMany [og_loc 0])))) (og_seq (og_if (og_or (og_or (og_cc og_rne (og_loc 1) (og_add (og_add (og_loc 2) (og_mul (og_k 3) (og_call m_Model_personMany [og_loc 0]))) (og_k 1))) (og_cc og_rne (og_ald 1600 (og_fix (fun _ => 1001) (og_loc 0)) (og_sub (og_loc 1) (og_k 1))) (og_call m_Model_checked [og_fix (fun _ => 1001) (og_loc 0), og_sub (og_loc 1) (og_k 1)]))) (og_cc og_rgt (og_add (og_mul (og_k 256) (og_ald 1600 (og_fix (fun _ => 1001) (og_loc 0)) (og_k 0))) (og_ald 1600 (og_fix (fun _ => 1001) (og_loc 0)) (og_k 1))) (og_k 999))) (og_retz (og_k 0)) (og_skip)) (og_cut (og_seq (og_set 3 (og_loc 2)) (og_while (og_cc og_rlt (og_loc 3) (og_sub (og_loc 1) (og_k 1))) (og_if (og_or (og_or (og_cc og_rgt (og_ald 1600 (og_fix (fun _ => 1001) (og_loc 0)) (og_loc 3)) (og_k 1)) (og_cc og_rgt (og_ald 1600 (og_fix (fun _ => 1001) (og_loc 0)) (og_add (og_loc 3) (og_k 1))) (og_k 99))) (og_cc og_rgt (og_ald 1600 (og_fix (fun _ => 1001) (og_loc 0)) (og_add (og_loc 3) (og_k 2))) (og_k 9))) (og_retz (og_k 0)) (og_skip)) (og_inc 3 3))) (og_cut (og_seq (og_set 3 (og_k 2)) (og_while (og_cc og_rlt (og_loc 3) (og_loc 2)) (og_if (og_not (og_cb (og_call m_Model_isGraveTold [og_loc 0, og_loc 3, og_loc 2]))) (og_retz (og_k 0)) (og_skip)) (og_inc 3 3))) (og_retz (og_k 1))))))
set_option maxRecDepth 20000 in
theorem ok_Model_isImage : og_MOK og_y_Model_isImage og_c_Model_isImage 4 3 4 [17, 0] m_Model_isImage := og_method (b := 0) (lt' := []) (by decide +kernel) (by decide) (by decide) (og_sseq (og_istore_n (i := 2) (lt' := [(0, 17), (1, 0), (2, 0)]) (og_iadd (og_iconst (by decide) d_Model_isImage_0) (og_imul (og_iconst (by decide) d_Model_isImage_1) (og_callVi (og_acons (og_aload_n (i := 0) (t := 15) (j := 0) (by rfl) (by rfl) d_Model_isImage_2) (og_anil)) (by decide) ok_Model_graveMany (v_Model_graveMany (by decide)) og_w1649 d_Model_isImage_3) d_Model_isImage_6) d_Model_isImage_7) (by rfl) (by decide) (by decide) d_Model_isImage_8) (og_sseq (og_sif (T := 67) (F := 69) (og_cor (og_cor (og_ine (tgt := 67) (og_iload_n (i := 1) (j := 1) (by rfl) (by rfl) d_Model_isImage_9) (og_iadd (og_iadd (og_iload_n (i := 2) (j := 2) (by rfl) (by rfl) d_Model_isImage_10) (og_imul (og_iconst (by decide) d_Model_isImage_11) (og_callVi (og_acons (og_aload_n (i := 0) (t := 15) (j := 0) (by rfl) (by rfl) d_Model_isImage_12) (og_anil)) (by decide) ok_Model_personMany (v_Model_personMany (by decide)) og_w1637 d_Model_isImage_13) d_Model_isImage_16) d_Model_isImage_17) (og_iconst (by decide) d_Model_isImage_18) d_Model_isImage_19) d_Model_isImage_20 (by decide)) (og_ine (tgt := 67) (og_iald (N := 1600) (og_f_Model_tape (og_aload_n (i := 0) (t := 15) (j := 0) (by rfl) (by rfl) d_Model_isImage_23) og_w1143 d_Model_isImage_24) (by rfl) (og_isub (og_iload_n (i := 1) (j := 1) (by rfl) (by rfl) d_Model_isImage_27) (og_iconst (by decide) d_Model_isImage_28) d_Model_isImage_29) d_Model_isImage_30) (og_callSi (og_acons (og_gen (og_f_Model_tape (og_aload_n (i := 0) (t := 15) (j := 0) (by rfl) (by rfl) d_Model_isImage_31) og_w1143 d_Model_isImage_32) (by rfl)) (og_acons (og_isub (og_iload_n (i := 1) (j := 1) (by rfl) (by rfl) d_Model_isImage_35) (og_iconst (by decide) d_Model_isImage_36) d_Model_isImage_37) (og_anil))) (by decide) ok_Model_checked (v_Model_checked (by decide)) og_w1984 d_Model_isImage_38) d_Model_isImage_41 (by decide))) (og_ccn og_n_gt (og_ile (tgt := 69) (og_iadd (og_imul (og_sipush (by decide) d_Model_isImage_44) (og_iald (N := 1600) (og_f_Model_tape (og_aload_n (i := 0) (t := 15) (j := 0) (by rfl) (by rfl) d_Model_isImage_47) og_w1143 d_Model_isImage_48) (by rfl) (og_iconst (by decide) d_Model_isImage_51) d_Model_isImage_52) d_Model_isImage_53) (og_iald (N := 1600) (og_f_Model_tape (og_aload_n (i := 0) (t := 15) (j := 0) (by rfl) (by rfl) d_Model_isImage_54) og_w1143 d_Model_isImage_55) (by rfl) (og_iconst (by decide) d_Model_isImage_58) d_Model_isImage_59) d_Model_isImage_60) (og_sipush (by decide) d_Model_isImage_61) d_Model_isImage_64 (by decide)))) (og_sretz (og_iconst (by decide) d_Model_isImage_67) d_Model_isImage_68) (og_sskip)) (og_scut (og_sdrop (lt' := [(0, 17), (1, 0), (2, 0), (3, 0)]) (lt2 := [(0, 17), (1, 0), (2, 0)]) (og_sseq (og_istore_n (i := 3) (lt' := [(0, 17), (1, 0), (2, 0), (3, 0)]) (og_iload_n (i := 2) (j := 2) (by rfl) (by rfl) d_Model_isImage_69) (by rfl) (by decide) (by decide) d_Model_isImage_70) (og_swhile (T := 78) (F := 122) (cp0 := 116) (og_ccn og_n_lt (og_ige (tgt := 122) (og_iload_n (i := 3) (j := 3) (by rfl) (by rfl) d_Model_isImage_71) (og_isub (og_iload_n (i := 1) (j := 1) (by rfl) (by rfl) d_Model_isImage_72) (og_iconst (by decide) d_Model_isImage_73) d_Model_isImage_74) d_Model_isImage_75 (by decide))) (og_sif (T := 114) (F := 116) (og_cor (og_cor (og_igt (tgt := 114) (og_iald (N := 1600) (og_f_Model_tape (og_aload_n (i := 0) (t := 15) (j := 0) (by rfl) (by rfl) d_Model_isImage_78) og_w1143 d_Model_isImage_79) (by rfl) (og_iload_n (i := 3) (j := 3) (by rfl) (by rfl) d_Model_isImage_82) d_Model_isImage_83) (og_iconst (by decide) d_Model_isImage_84) d_Model_isImage_85 (by decide)) (og_igt (tgt := 114) (og_iald (N := 1600) (og_f_Model_tape (og_aload_n (i := 0) (t := 15) (j := 0) (by rfl) (by rfl) d_Model_isImage_88) og_w1143 d_Model_isImage_89) (by rfl) (og_iadd (og_iload_n (i := 3) (j := 3) (by rfl) (by rfl) d_Model_isImage_92) (og_iconst (by decide) d_Model_isImage_93) d_Model_isImage_94) d_Model_isImage_95) (og_bipush (by decide) d_Model_isImage_96) d_Model_isImage_98 (by decide))) (og_ccn og_n_gt (og_ile (tgt := 116) (og_iald (N := 1600) (og_f_Model_tape (og_aload_n (i := 0) (t := 15) (j := 0) (by rfl) (by rfl) d_Model_isImage_101) og_w1143 d_Model_isImage_102) (by rfl) (og_iadd (og_iload_n (i := 3) (j := 3) (by rfl) (by rfl) d_Model_isImage_105) (og_iconst (by decide) d_Model_isImage_106) d_Model_isImage_107) d_Model_isImage_108) (og_bipush (by decide) d_Model_isImage_109) d_Model_isImage_111 (by decide)))) (og_sretz (og_iconst (by decide) d_Model_isImage_114) d_Model_isImage_115) (og_sskip)) (og_gS (b' := 71) (og_iinc (j := 3) (lt' := [(0, 17), (1, 0), (2, 0), (3, 0)]) (by rfl) (by decide) (by decide) d_Model_isImage_116) d_Model_isImage_119 (by decide)))) (by decide)) (og_scut (og_sdrop (lt' := [(0, 17), (1, 0), (2, 0), (3, 0)]) (lt2 := [(0, 17), (1, 0), (2, 0)]) (og_sseq (og_istore_n (i := 3) (lt' := [(0, 17), (1, 0), (2, 0), (3, 0)]) (og_iconst (by decide) d_Model_isImage_122) (by rfl) (by decide) (by decide) d_Model_isImage_123) (og_swhile (T := 129) (F := 146) (cp0 := 140) (og_ccn og_n_lt (og_ige (tgt := 146) (og_iload_n (i := 3) (j := 3) (by rfl) (by rfl) d_Model_isImage_124) (og_iload_n (i := 2) (j := 2) (by rfl) (by rfl) d_Model_isImage_125) d_Model_isImage_126 (by decide))) (og_sif (T := 138) (F := 140) (og_cnot (og_cbne (tgt := 140) (og_callVz (og_acons (og_aload_n (i := 0) (t := 15) (j := 0) (by rfl) (by rfl) d_Model_isImage_129) (og_acons (og_iload_n (i := 3) (j := 3) (by rfl) (by rfl) d_Model_isImage_130) (og_acons (og_iload_n (i := 2) (j := 2) (by rfl) (by rfl) d_Model_isImage_131) (og_anil)))) (by decide) ok_Model_isGraveTold (v_Model_isGraveTold (by decide)) og_w1999 d_Model_isImage_132) d_Model_isImage_135 (by decide))) (og_sretz (og_iconst (by decide) d_Model_isImage_138) d_Model_isImage_139) (og_sskip)) (og_gS (b' := 124) (og_iinc (j := 3) (lt' := [(0, 17), (1, 0), (2, 0), (3, 0)]) (by rfl) (by decide) (by decide) d_Model_isImage_140) d_Model_isImage_143 (by decide)))) (by decide)) (og_sretz (og_iconst (by decide) d_Model_isImage_146) d_Model_isImage_147))))) (fun h => by cases h)
abbrev og_c_Model_on : ByteArray := prog_14_method_137_code
abbrev og_y_Model_on : MethodName := ⟨"OpenGravesModel", "on", "()Z"⟩
theorem v_Model_on {own : String} {idx dep : Nat} (h : 5 + 1 ≤ dep) : og_sV own idx og_y_Model_on og_c_Model_on 3 3 5 dep 13 0 := ⟨⟨12, og_sl_Model, og_T_Model, 102, rfl, by decide, rfl⟩, og_w1992, og_w1993, og_w17, og_w1994, ⟨by decide +kernel, by decide +kernel, by decide +kernel⟩, h, by decide⟩
theorem d_Model_on_0 : decode og_c_Model_on 0 = .ok (.aload_n 0, 1) := by decide +kernel
theorem d_Model_on_1 : decode og_c_Model_on 1 = .ok (.getfield 239, 3) := by decide +kernel
theorem d_Model_on_4 : decode og_c_Model_on 4 = .ok (.istore_n 1, 1) := by decide +kernel
theorem d_Model_on_5 : decode og_c_Model_on 5 = .ok (.aload_n 0, 1) := by decide +kernel
theorem d_Model_on_6 : decode og_c_Model_on 6 = .ok (.iconst 0, 1) := by decide +kernel
theorem d_Model_on_7 : decode og_c_Model_on 7 = .ok (.putfield 239, 3) := by decide +kernel
theorem d_Model_on_10 : decode og_c_Model_on 10 = .ok (.aload_n 0, 1) := by decide +kernel
theorem d_Model_on_11 : decode og_c_Model_on 11 = .ok (.iload_n 1, 1) := by decide +kernel
theorem d_Model_on_12 : decode og_c_Model_on 12 = .ok (.invokevirtual 687, 3) := by decide +kernel
theorem d_Model_on_15 : decode og_c_Model_on 15 = .ok (.ifCond .ne 15, 3) := by decide +kernel
theorem d_Model_on_18 : decode og_c_Model_on 18 = .ok (.aload_n 0, 1) := by decide +kernel
theorem d_Model_on_19 : decode og_c_Model_on 19 = .ok (.getfield 17, 3) := by decide +kernel
theorem d_Model_on_22 : decode og_c_Model_on 22 = .ok (.iconst 5, 1) := by decide +kernel
theorem d_Model_on_23 : decode og_c_Model_on 23 = .ok (.dup2, 1) := by decide +kernel
theorem d_Model_on_24 : decode og_c_Model_on 24 = .ok (.iaload, 1) := by decide +kernel
theorem d_Model_on_25 : decode og_c_Model_on 25 = .ok (.iconst 1, 1) := by decide +kernel
theorem d_Model_on_26 : decode og_c_Model_on 26 = .ok (.iadd, 1) := by decide +kernel
theorem d_Model_on_27 : decode og_c_Model_on 27 = .ok (.iastore, 1) := by decide +kernel
theorem d_Model_on_28 : decode og_c_Model_on 28 = .ok (.iconst 0, 1) := by decide +kernel
theorem d_Model_on_29 : decode og_c_Model_on 29 = .ok (.ireturn, 1) := by decide +kernel
theorem d_Model_on_30 : decode og_c_Model_on 30 = .ok (.aload_n 0, 1) := by decide +kernel
theorem d_Model_on_31 : decode og_c_Model_on 31 = .ok (.getfield 124, 3) := by decide +kernel
theorem d_Model_on_34 : decode og_c_Model_on 34 = .ok (.iconst 0, 1) := by decide +kernel
theorem d_Model_on_35 : decode og_c_Model_on 35 = .ok (.sipush 256, 3) := by decide +kernel
theorem d_Model_on_38 : decode og_c_Model_on 38 = .ok (.aload_n 0, 1) := by decide +kernel
theorem d_Model_on_39 : decode og_c_Model_on 39 = .ok (.getfield 7, 3) := by decide +kernel
theorem d_Model_on_42 : decode og_c_Model_on 42 = .ok (.iconst 0, 1) := by decide +kernel
theorem d_Model_on_43 : decode og_c_Model_on 43 = .ok (.iaload, 1) := by decide +kernel
theorem d_Model_on_44 : decode og_c_Model_on 44 = .ok (.imul, 1) := by decide +kernel
theorem d_Model_on_45 : decode og_c_Model_on 45 = .ok (.aload_n 0, 1) := by decide +kernel
theorem d_Model_on_46 : decode og_c_Model_on 46 = .ok (.getfield 7, 3) := by decide +kernel
theorem d_Model_on_49 : decode og_c_Model_on 49 = .ok (.iconst 1, 1) := by decide +kernel
theorem d_Model_on_50 : decode og_c_Model_on 50 = .ok (.iaload, 1) := by decide +kernel
theorem d_Model_on_51 : decode og_c_Model_on 51 = .ok (.iadd, 1) := by decide +kernel
theorem d_Model_on_52 : decode og_c_Model_on 52 = .ok (.iastore, 1) := by decide +kernel
theorem d_Model_on_53 : decode og_c_Model_on 53 = .ok (.iconst 0, 1) := by decide +kernel
theorem d_Model_on_54 : decode og_c_Model_on 54 = .ok (.istore_n 2, 1) := by decide +kernel
theorem d_Model_on_55 : decode og_c_Model_on 55 = .ok (.iload_n 2, 1) := by decide +kernel
theorem d_Model_on_56 : decode og_c_Model_on 56 = .ok (.iconst 3, 1) := by decide +kernel
theorem d_Model_on_57 : decode og_c_Model_on 57 = .ok (.aload_n 0, 1) := by decide +kernel
theorem d_Model_on_58 : decode og_c_Model_on 58 = .ok (.invokevirtual 378, 3) := by decide +kernel
theorem d_Model_on_61 : decode og_c_Model_on 61 = .ok (.imul, 1) := by decide +kernel
theorem d_Model_on_62 : decode og_c_Model_on 62 = .ok (.if_icmp .ge 50, 3) := by decide +kernel
theorem d_Model_on_65 : decode og_c_Model_on 65 = .ok (.aload_n 0, 1) := by decide +kernel
theorem d_Model_on_66 : decode og_c_Model_on 66 = .ok (.getfield 124, 3) := by decide +kernel
theorem d_Model_on_69 : decode og_c_Model_on 69 = .ok (.iconst 1, 1) := by decide +kernel
theorem d_Model_on_70 : decode og_c_Model_on 70 = .ok (.iload_n 2, 1) := by decide +kernel
theorem d_Model_on_71 : decode og_c_Model_on 71 = .ok (.iadd, 1) := by decide +kernel
theorem d_Model_on_72 : decode og_c_Model_on 72 = .ok (.iload_n 2, 1) := by decide +kernel
theorem d_Model_on_73 : decode og_c_Model_on 73 = .ok (.iconst 3, 1) := by decide +kernel
theorem d_Model_on_74 : decode og_c_Model_on 74 = .ok (.irem, 1) := by decide +kernel
theorem d_Model_on_75 : decode og_c_Model_on 75 = .ok (.iconst 2, 1) := by decide +kernel
theorem d_Model_on_76 : decode og_c_Model_on 76 = .ok (.if_icmp .ne 21, 3) := by decide +kernel
theorem d_Model_on_79 : decode og_c_Model_on 79 = .ok (.aload_n 0, 1) := by decide +kernel
theorem d_Model_on_80 : decode og_c_Model_on 80 = .ok (.getfield 7, 3) := by decide +kernel
theorem d_Model_on_83 : decode og_c_Model_on 83 = .ok (.iconst 2, 1) := by decide +kernel
theorem d_Model_on_84 : decode og_c_Model_on 84 = .ok (.iload_n 2, 1) := by decide +kernel
theorem d_Model_on_85 : decode og_c_Model_on 85 = .ok (.iadd, 1) := by decide +kernel
theorem d_Model_on_86 : decode og_c_Model_on 86 = .ok (.iaload, 1) := by decide +kernel
theorem d_Model_on_87 : decode og_c_Model_on 87 = .ok (.sipush 255, 3) := by decide +kernel
theorem d_Model_on_90 : decode og_c_Model_on 90 = .ok (.if_icmp .ne 7, 3) := by decide +kernel
theorem d_Model_on_93 : decode og_c_Model_on 93 = .ok (.iconst (-1), 1) := by decide +kernel
theorem d_Model_on_94 : decode og_c_Model_on 94 = .ok (.goto 11, 3) := by decide +kernel
theorem d_Model_on_97 : decode og_c_Model_on 97 = .ok (.aload_n 0, 1) := by decide +kernel
theorem d_Model_on_98 : decode og_c_Model_on 98 = .ok (.getfield 7, 3) := by decide +kernel
theorem d_Model_on_101 : decode og_c_Model_on 101 = .ok (.iconst 2, 1) := by decide +kernel
theorem d_Model_on_102 : decode og_c_Model_on 102 = .ok (.iload_n 2, 1) := by decide +kernel
theorem d_Model_on_103 : decode og_c_Model_on 103 = .ok (.iadd, 1) := by decide +kernel
theorem d_Model_on_104 : decode og_c_Model_on 104 = .ok (.iaload, 1) := by decide +kernel
theorem d_Model_on_105 : decode og_c_Model_on 105 = .ok (.iastore, 1) := by decide +kernel
theorem d_Model_on_106 : decode og_c_Model_on 106 = .ok (.iinc 2 1, 3) := by decide +kernel
theorem d_Model_on_109 : decode og_c_Model_on 109 = .ok (.goto (-54), 3) := by decide +kernel
theorem d_Model_on_112 : decode og_c_Model_on 112 = .ok (.iconst 0, 1) := by decide +kernel
theorem d_Model_on_113 : decode og_c_Model_on 113 = .ok (.istore_n 2, 1) := by decide +kernel
theorem d_Model_on_114 : decode og_c_Model_on 114 = .ok (.iload_n 2, 1) := by decide +kernel
theorem d_Model_on_115 : decode og_c_Model_on 115 = .ok (.iconst 3, 1) := by decide +kernel
theorem d_Model_on_116 : decode og_c_Model_on 116 = .ok (.aload_n 0, 1) := by decide +kernel
theorem d_Model_on_117 : decode og_c_Model_on 117 = .ok (.invokevirtual 381, 3) := by decide +kernel
theorem d_Model_on_120 : decode og_c_Model_on 120 = .ok (.imul, 1) := by decide +kernel
theorem d_Model_on_121 : decode og_c_Model_on 121 = .ok (.if_icmp .ge 33, 3) := by decide +kernel
theorem d_Model_on_124 : decode og_c_Model_on 124 = .ok (.aload_n 0, 1) := by decide +kernel
theorem d_Model_on_125 : decode og_c_Model_on 125 = .ok (.getfield 124, 3) := by decide +kernel
theorem d_Model_on_128 : decode og_c_Model_on 128 = .ok (.bipush 19, 2) := by decide +kernel
theorem d_Model_on_130 : decode og_c_Model_on 130 = .ok (.iload_n 2, 1) := by decide +kernel
theorem d_Model_on_131 : decode og_c_Model_on 131 = .ok (.iadd, 1) := by decide +kernel
theorem d_Model_on_132 : decode og_c_Model_on 132 = .ok (.aload_n 0, 1) := by decide +kernel
theorem d_Model_on_133 : decode og_c_Model_on 133 = .ok (.getfield 7, 3) := by decide +kernel
theorem d_Model_on_136 : decode og_c_Model_on 136 = .ok (.iconst 2, 1) := by decide +kernel
theorem d_Model_on_137 : decode og_c_Model_on 137 = .ok (.iconst 3, 1) := by decide +kernel
theorem d_Model_on_138 : decode og_c_Model_on 138 = .ok (.aload_n 0, 1) := by decide +kernel
theorem d_Model_on_139 : decode og_c_Model_on 139 = .ok (.invokevirtual 378, 3) := by decide +kernel
theorem d_Model_on_142 : decode og_c_Model_on 142 = .ok (.imul, 1) := by decide +kernel
theorem d_Model_on_143 : decode og_c_Model_on 143 = .ok (.iadd, 1) := by decide +kernel
theorem d_Model_on_144 : decode og_c_Model_on 144 = .ok (.iload_n 2, 1) := by decide +kernel
theorem d_Model_on_145 : decode og_c_Model_on 145 = .ok (.iadd, 1) := by decide +kernel
theorem d_Model_on_146 : decode og_c_Model_on 146 = .ok (.iaload, 1) := by decide +kernel
theorem d_Model_on_147 : decode og_c_Model_on 147 = .ok (.iastore, 1) := by decide +kernel
theorem d_Model_on_148 : decode og_c_Model_on 148 = .ok (.iinc 2 1, 3) := by decide +kernel
theorem d_Model_on_151 : decode og_c_Model_on 151 = .ok (.goto (-37), 3) := by decide +kernel
theorem d_Model_on_154 : decode og_c_Model_on 154 = .ok (.aload_n 0, 1) := by decide +kernel
theorem d_Model_on_155 : decode og_c_Model_on 155 = .ok (.getfield 124, 3) := by decide +kernel
theorem d_Model_on_158 : decode og_c_Model_on 158 = .ok (.bipush 43, 2) := by decide +kernel
theorem d_Model_on_160 : decode og_c_Model_on 160 = .ok (.iconst 0, 1) := by decide +kernel
theorem d_Model_on_161 : decode og_c_Model_on 161 = .ok (.iastore, 1) := by decide +kernel
theorem d_Model_on_162 : decode og_c_Model_on 162 = .ok (.aload_n 0, 1) := by decide +kernel
theorem d_Model_on_163 : decode og_c_Model_on 163 = .ok (.iconst 0, 1) := by decide +kernel
theorem d_Model_on_164 : decode og_c_Model_on 164 = .ok (.putfield 372, 3) := by decide +kernel
theorem d_Model_on_167 : decode og_c_Model_on 167 = .ok (.iconst 1, 1) := by decide +kernel
theorem d_Model_on_168 : decode og_c_Model_on 168 = .ok (.ireturn, 1) := by decide +kernel
def m_Model_on : og_Dn := og_den [17] 3 3 (og_seq (og_set 1 (og_get 1 (og_loc 0))) (og_seq (og_putf 1 (og_loc 0) (og_k 0)) (og_seq (og_if (og_not (og_cb (og_call m_Model_isImage [og_loc 0, og_loc 1]))) (og_seq (og_aop og_padd 6 (og_fix (fun _ => 1002) (og_loc 0)) (og_k 5) (og_k 1)) (og_retz (og_k 0))) (og_skip)) (og_seq (og_ast 204 (og_fix (fun _ => 1037) (og_loc 0)) (og_k 0) (og_add (og_mul (og_k 256) (og_ald 1600 (og_fix (fun _ => 1001) (og_loc 0)) (og_k 0))) (og_ald 1600 (og_fix (fun _ => 1001) (og_loc 0)) (og_k 1)))) (og_cut (og_seq (og_set 2 (og_k 0)) (og_while (og_cc og_rlt (og_loc 2) (og_mul (og_k 3) (og_call m_Model_graveMany [og_loc 0]))) (og_ast 204 (og_fix (fun _ => 1037) (og_loc 0)) (og_add (og_k 1) (og_loc 2)) (og_ei (og_and (og_cc og_req (og_rem (og_loc 2) (og_k 3)) (og_k 2)) (og_cc og_req (og_ald 1600 (og_fix (fun _ => 1001) (og_loc 0)) (og_add (og_k 2) (og_loc 2))) (og_k 255))) (og_k (-1)) (og_ald 1600 (og_fix (fun _ => 1001) (og_loc 0)) (og_add (og_k 2) (og_loc 2))))) (og_inc 2 1))) (og_cut (og_seq (og_set 2 (og_k 0)) (og_while (og_cc og_rlt (og_loc 2) (og_mul (og_k 3) (og_call m_Model_personMany [og_loc 0]))) (og_ast 204 (og_fix (fun _ => 1037) (og_loc 0)) (og_add (og_k 19) (og_loc 2)) (og_ald 1600 (og_fix (fun _ => 1001) (og_loc 0)) (og_add (og_add (og_k 2) (og_mul (og_k 3) (og_call m_Model_graveMany [og_loc 0]))) (og_loc 2)))) (og_inc 2 1))) (og_seq (og_ast 204 (og_fix (fun _ => 1037) (og_loc 0)) (og_k 43) (og_k 0)) (og_seq (og_putf 65 (og_loc 0) (og_k 0)) (og_retz (og_k 1))))))))))
set_option maxRecDepth 20000 in
theorem ok_Model_on : og_MOK og_y_Model_on og_c_Model_on 3 3 5 [17] m_Model_on := og_method (b := 0) (lt' := []) (by decide +kernel) (by decide) (by decide) (og_sseq (og_istore_n (i := 1) (lt' := [(0, 17), (1, 0)]) (og_f_Model_taped (og_aload_n (i := 0) (t := 15) (j := 0) (by rfl) (by rfl) d_Model_on_0) og_w1144 d_Model_on_1) (by rfl) (by decide) (by decide) d_Model_on_4) (og_sseq (og_p_Model_taped (og_aload_n (i := 0) (t := 15) (j := 0) (by rfl) (by rfl) d_Model_on_5) (og_iconst (by decide) d_Model_on_6) og_w1144 d_Model_on_7) (og_sseq (og_sif (T := 18) (F := 30) (og_cnot (og_cbne (tgt := 30) (og_callVz (og_acons (og_aload_n (i := 0) (t := 15) (j := 0) (by rfl) (by rfl) d_Model_on_10) (og_acons (og_iload_n (i := 1) (j := 1) (by rfl) (by rfl) d_Model_on_11) (og_anil))) (by decide) ok_Model_isImage (v_Model_isImage (by decide)) og_w1995 d_Model_on_12) d_Model_on_15 (by decide))) (og_sseq (og_aadd (N := 6) (og_f_Model_refused (og_aload_n (i := 0) (t := 15) (j := 0) (by rfl) (by rfl) d_Model_on_18) og_w1152 d_Model_on_19) (by rfl) (og_iconst (by decide) d_Model_on_22) d_Model_on_23 d_Model_on_24 (og_iconst (by decide) d_Model_on_25) d_Model_on_26 d_Model_on_27) (og_sretz (og_iconst (by decide) d_Model_on_28) d_Model_on_29)) (og_sskip)) (og_sseq (og_iastore (N := 204) (og_f_Model_now (og_aload_n (i := 0) (t := 15) (j := 0) (by rfl) (by rfl) d_Model_on_30) og_w1192 d_Model_on_31) (by rfl) (og_iconst (by decide) d_Model_on_34) (og_iadd (og_imul (og_sipush (by decide) d_Model_on_35) (og_iald (N := 1600) (og_f_Model_tape (og_aload_n (i := 0) (t := 15) (j := 0) (by rfl) (by rfl) d_Model_on_38) og_w1143 d_Model_on_39) (by rfl) (og_iconst (by decide) d_Model_on_42) d_Model_on_43) d_Model_on_44) (og_iald (N := 1600) (og_f_Model_tape (og_aload_n (i := 0) (t := 15) (j := 0) (by rfl) (by rfl) d_Model_on_45) og_w1143 d_Model_on_46) (by rfl) (og_iconst (by decide) d_Model_on_49) d_Model_on_50) d_Model_on_51) d_Model_on_52) (og_scut (og_sdrop (lt' := [(0, 17), (1, 0), (2, 0)]) (lt2 := [(0, 17), (1, 0)]) (og_sseq (og_istore_n (i := 2) (lt' := [(0, 17), (1, 0), (2, 0)]) (og_iconst (by decide) d_Model_on_53) (by rfl) (by decide) (by decide) d_Model_on_54) (og_swhile (T := 65) (F := 112) (cp0 := 106) (og_ccn og_n_lt (og_ige (tgt := 112) (og_iload_n (i := 2) (j := 2) (by rfl) (by rfl) d_Model_on_55) (og_imul (og_iconst (by decide) d_Model_on_56) (og_callVi (og_acons (og_aload_n (i := 0) (t := 15) (j := 0) (by rfl) (by rfl) d_Model_on_57) (og_anil)) (by decide) ok_Model_graveMany (v_Model_graveMany (by decide)) og_w1649 d_Model_on_58) d_Model_on_61) d_Model_on_62 (by decide))) (og_iastore (N := 204) (og_f_Model_now (og_aload_n (i := 0) (t := 15) (j := 0) (by rfl) (by rfl) d_Model_on_65) og_w1192 d_Model_on_66) (by rfl) (og_iadd (og_iconst (by decide) d_Model_on_69) (og_iload_n (i := 2) (j := 2) (by rfl) (by rfl) d_Model_on_70) d_Model_on_71) (og_eite (og_cand (og_ccn og_n_eq (og_ine (tgt := 97) (og_irem (og_iload_n (i := 2) (j := 2) (by rfl) (by rfl) d_Model_on_72) (og_iconst (by decide) d_Model_on_73) d_Model_on_74) (og_iconst (by decide) d_Model_on_75) d_Model_on_76 (by decide))) (og_ccn og_n_eq (og_ine (tgt := 97) (og_iald (N := 1600) (og_f_Model_tape (og_aload_n (i := 0) (t := 15) (j := 0) (by rfl) (by rfl) d_Model_on_79) og_w1143 d_Model_on_80) (by rfl) (og_iadd (og_iconst (by decide) d_Model_on_83) (og_iload_n (i := 2) (j := 2) (by rfl) (by rfl) d_Model_on_84) d_Model_on_85) d_Model_on_86) (og_sipush (by decide) d_Model_on_87) d_Model_on_90 (by decide)))) (og_iconst (by decide) d_Model_on_93) d_Model_on_94 (by decide) (og_iald (N := 1600) (og_f_Model_tape (og_aload_n (i := 0) (t := 15) (j := 0) (by rfl) (by rfl) d_Model_on_97) og_w1143 d_Model_on_98) (by rfl) (og_iadd (og_iconst (by decide) d_Model_on_101) (og_iload_n (i := 2) (j := 2) (by rfl) (by rfl) d_Model_on_102) d_Model_on_103) d_Model_on_104)) d_Model_on_105) (og_gS (b' := 55) (og_iinc (j := 2) (lt' := [(0, 17), (1, 0), (2, 0)]) (by rfl) (by decide) (by decide) d_Model_on_106) d_Model_on_109 (by decide)))) (by decide)) (og_scut (og_sdrop (lt' := [(0, 17), (1, 0), (2, 0)]) (lt2 := [(0, 17), (1, 0)]) (og_sseq (og_istore_n (i := 2) (lt' := [(0, 17), (1, 0), (2, 0)]) (og_iconst (by decide) d_Model_on_112) (by rfl) (by decide) (by decide) d_Model_on_113) (og_swhile (T := 124) (F := 154) (cp0 := 148) (og_ccn og_n_lt (og_ige (tgt := 154) (og_iload_n (i := 2) (j := 2) (by rfl) (by rfl) d_Model_on_114) (og_imul (og_iconst (by decide) d_Model_on_115) (og_callVi (og_acons (og_aload_n (i := 0) (t := 15) (j := 0) (by rfl) (by rfl) d_Model_on_116) (og_anil)) (by decide) ok_Model_personMany (v_Model_personMany (by decide)) og_w1637 d_Model_on_117) d_Model_on_120) d_Model_on_121 (by decide))) (og_iastore (N := 204) (og_f_Model_now (og_aload_n (i := 0) (t := 15) (j := 0) (by rfl) (by rfl) d_Model_on_124) og_w1192 d_Model_on_125) (by rfl) (og_iadd (og_bipush (by decide) d_Model_on_128) (og_iload_n (i := 2) (j := 2) (by rfl) (by rfl) d_Model_on_130) d_Model_on_131) (og_iald (N := 1600) (og_f_Model_tape (og_aload_n (i := 0) (t := 15) (j := 0) (by rfl) (by rfl) d_Model_on_132) og_w1143 d_Model_on_133) (by rfl) (og_iadd (og_iadd (og_iconst (by decide) d_Model_on_136) (og_imul (og_iconst (by decide) d_Model_on_137) (og_callVi (og_acons (og_aload_n (i := 0) (t := 15) (j := 0) (by rfl) (by rfl) d_Model_on_138) (og_anil)) (by decide) ok_Model_graveMany (v_Model_graveMany (by decide)) og_w1649 d_Model_on_139) d_Model_on_142) d_Model_on_143) (og_iload_n (i := 2) (j := 2) (by rfl) (by rfl) d_Model_on_144) d_Model_on_145) d_Model_on_146) d_Model_on_147) (og_gS (b' := 114) (og_iinc (j := 2) (lt' := [(0, 17), (1, 0), (2, 0)]) (by rfl) (by decide) (by decide) d_Model_on_148) d_Model_on_151 (by decide)))) (by decide)) (og_sseq (og_iastore (N := 204) (og_f_Model_now (og_aload_n (i := 0) (t := 15) (j := 0) (by rfl) (by rfl) d_Model_on_154) og_w1192 d_Model_on_155) (by rfl) (og_bipush (by decide) d_Model_on_158) (og_iconst (by decide) d_Model_on_160) d_Model_on_161) (og_sseq (og_p_Model_undoable (og_aload_n (i := 0) (t := 15) (j := 0) (by rfl) (by rfl) d_Model_on_162) (og_iconst (by decide) d_Model_on_163) og_w1208 d_Model_on_164) (og_sretz (og_iconst (by decide) d_Model_on_167) d_Model_on_168))))))))) (fun h => by cases h)
abbrev og_c_Model_status : ByteArray := prog_14_method_138_code
abbrev og_y_Model_status : MethodName := ⟨"OpenGravesModel", "status", "(I)I"⟩
theorem v_Model_status {own : String} {idx dep : Nat} (h : 2 + 1 ≤ dep) : og_sV own idx og_y_Model_status og_c_Model_status 2 0 2 dep 13 1 := ⟨⟨12, og_sl_Model, og_T_Model, 102, rfl, by decide, rfl⟩, og_w2004, og_w2005, og_w17, og_w2006, ⟨by decide +kernel, by decide +kernel, by decide +kernel⟩, h, by decide⟩
theorem d_Model_status_0 : decode og_c_Model_status 0 = .ok (.iload_n 1, 1) := by decide +kernel
theorem d_Model_status_1 : decode og_c_Model_status 1 = .ok (.i2l, 1) := by decide +kernel
theorem d_Model_status_2 : decode og_c_Model_status 2 = .ok (.lconst 0, 1) := by decide +kernel
theorem d_Model_status_3 : decode og_c_Model_status 3 = .ok (.ldc2_w 483, 3) := by decide +kernel
theorem d_Model_status_6 : decode og_c_Model_status 6 = .ok (.invokestatic 285, 3) := by decide +kernel
theorem d_Model_status_9 : decode og_c_Model_status 9 = .ok (.ifCond .eq 12, 3) := by decide +kernel
theorem d_Model_status_12 : decode og_c_Model_status 12 = .ok (.aload_n 0, 1) := by decide +kernel
theorem d_Model_status_13 : decode og_c_Model_status 13 = .ok (.getfield 17, 3) := by decide +kernel
theorem d_Model_status_16 : decode og_c_Model_status 16 = .ok (.iload_n 1, 1) := by decide +kernel
theorem d_Model_status_17 : decode og_c_Model_status 17 = .ok (.iaload, 1) := by decide +kernel
theorem d_Model_status_18 : decode og_c_Model_status 18 = .ok (.goto 4, 3) := by decide +kernel
theorem d_Model_status_21 : decode og_c_Model_status 21 = .ok (.iconst (-1), 1) := by decide +kernel
theorem d_Model_status_22 : decode og_c_Model_status 22 = .ok (.ireturn, 1) := by decide +kernel
def m_Model_status : og_Dn := og_den [17, 0] 2 0 (og_ret (og_ei (og_cb (og_call m_Model_isIn [og_i2l (og_loc 1), og_k 0, og_k 5])) (og_ald 6 (og_fix (fun _ => 1002) (og_loc 0)) (og_loc 1)) (og_k (-1))))
set_option maxRecDepth 20000 in
theorem ok_Model_status : og_MOK og_y_Model_status og_c_Model_status 2 0 2 [17, 0] m_Model_status := og_method (b := 0) (lt' := []) (by decide +kernel) (by decide) (by decide) (og_sreti (og_eite (og_cbeq (tgt := 21) (og_callSz (og_acons (og_i2l_ (og_iload_n (i := 1) (j := 1) (by rfl) (by rfl) d_Model_status_0) d_Model_status_1) (og_acons (og_lconst (x := 0) d_Model_status_2) (og_acons (og_ldc2 (x := 5) (by decide) og_w1673 d_Model_status_3) (og_anil)))) (by decide) ok_Model_isIn (v_Model_isIn (by decide)) og_w1520 d_Model_status_6) d_Model_status_9 (by decide)) (og_iald (N := 6) (og_f_Model_refused (og_aload_n (i := 0) (t := 15) (j := 0) (by rfl) (by rfl) d_Model_status_12) og_w1152 d_Model_status_13) (by rfl) (og_iload_n (i := 1) (j := 1) (by rfl) (by rfl) d_Model_status_16) d_Model_status_17) d_Model_status_18 (by decide) (og_iconst (by decide) d_Model_status_21)) d_Model_status_22) (fun h => by cases h)
