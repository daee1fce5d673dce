abbrev og_c_Model_later : ByteArray := prog_14_method_68_code
abbrev og_y_Model_later : MethodName := ⟨"OpenGravesModel", "later", "(II)I"⟩
theorem v_Model_later {own : String} {idx dep : Nat} (h : 10 + 1 ≤ dep) : og_sV own idx og_y_Model_later og_c_Model_later 4 0 10 dep 13 2 := ⟨⟨12, og_sl_Model, og_T_Model, 102, rfl, by decide, rfl⟩, og_w1773, og_w1774, og_w17, og_w1775, ⟨by decide +kernel, by decide +kernel, by decide +kernel⟩, h, by decide⟩
theorem d_Model_later_0 : decode og_c_Model_later 0 = .ok (.aload_n 0, 1) := by decide +kernel
theorem d_Model_later_1 : decode og_c_Model_later 1 = .ok (.iload_n 1, 1) := by decide +kernel
theorem d_Model_later_2 : decode og_c_Model_later 2 = .ok (.i2l, 1) := by decide +kernel
theorem d_Model_later_3 : decode og_c_Model_later 3 = .ok (.invokevirtual 485, 3) := by decide +kernel
theorem d_Model_later_6 : decode og_c_Model_later 6 = .ok (.ifCond .eq 14, 3) := by decide +kernel
theorem d_Model_later_9 : decode og_c_Model_later 9 = .ok (.aload_n 0, 1) := by decide +kernel
theorem d_Model_later_10 : decode og_c_Model_later 10 = .ok (.iload_n 2, 1) := by decide +kernel
theorem d_Model_later_11 : decode og_c_Model_later 11 = .ok (.iconst 0, 1) := by decide +kernel
theorem d_Model_later_12 : decode og_c_Model_later 12 = .ok (.bipush 60, 2) := by decide +kernel
theorem d_Model_later_14 : decode og_c_Model_later 14 = .ok (.invokevirtual 505, 3) := by decide +kernel
theorem d_Model_later_17 : decode og_c_Model_later 17 = .ok (.ifCond .ne 5, 3) := by decide +kernel
theorem d_Model_later_20 : decode og_c_Model_later 20 = .ok (.iconst (-1), 1) := by decide +kernel
theorem d_Model_later_21 : decode og_c_Model_later 21 = .ok (.ireturn, 1) := by decide +kernel
theorem d_Model_later_22 : decode og_c_Model_later 22 = .ok (.aload_n 0, 1) := by decide +kernel
theorem d_Model_later_23 : decode og_c_Model_later 23 = .ok (.invokevirtual 508, 3) := by decide +kernel
theorem d_Model_later_26 : decode og_c_Model_later 26 = .ok (.aload_n 0, 1) := by decide +kernel
theorem d_Model_later_27 : decode og_c_Model_later 27 = .ok (.iload_n 2, 1) := by decide +kernel
theorem d_Model_later_28 : decode og_c_Model_later 28 = .ok (.invokevirtual 511, 3) := by decide +kernel
theorem d_Model_later_31 : decode og_c_Model_later 31 = .ok (.aload_n 0, 1) := by decide +kernel
theorem d_Model_later_32 : decode og_c_Model_later 32 = .ok (.iload_n 1, 1) := by decide +kernel
theorem d_Model_later_33 : decode og_c_Model_later 33 = .ok (.invokevirtual 387, 3) := by decide +kernel
theorem d_Model_later_36 : decode og_c_Model_later 36 = .ok (.istore_n 3, 1) := by decide +kernel
theorem d_Model_later_37 : decode og_c_Model_later 37 = .ok (.aload_n 0, 1) := by decide +kernel
theorem d_Model_later_38 : decode og_c_Model_later 38 = .ok (.invokevirtual 514, 3) := by decide +kernel
theorem d_Model_later_41 : decode og_c_Model_later 41 = .ok (.iload_n 3, 1) := by decide +kernel
theorem d_Model_later_42 : decode og_c_Model_later 42 = .ok (.ireturn, 1) := by decide +kernel
def m_Model_later : og_Dn := og_den [17, 0, 0] 4 0 (og_seq (og_if (og_or (og_not (og_cb (og_call m_Model_isGrave [og_loc 0, og_i2l (og_loc 1)]))) (og_not (og_cb (og_call m_Model_isAhead [og_loc 0, og_loc 2, og_k 0, og_k 60])))) (og_ret (og_k (-1))) (og_skip)) (og_seq (og_exp (og_call m_Model_putsAside [og_loc 0])) (og_seq (og_exp (og_call m_Model_monthsGo [og_loc 0, og_loc 2])) (og_seq (og_set 3 (og_call m_Model_inGrave [og_loc 0, og_loc 1])) (og_seq (og_exp (og_call m_Model_takesBack [og_loc 0])) (og_ret (og_loc 3)))))))
set_option maxRecDepth 20000 in
theorem ok_Model_later : og_MOK og_y_Model_later og_c_Model_later 4 0 10 [17, 0, 0] m_Model_later := og_method (b := 0) (lt' := []) (by decide +kernel) (by decide) (by decide) (og_sseq (og_sif (T := 20) (F := 22) (og_cor (og_cnot (og_cbeq (tgt := 20) (og_callVz (og_acons (og_aload_n (i := 0) (t := 15) (j := 0) (by rfl) (by rfl) d_Model_later_0) (og_acons (og_i2l_ (og_iload_n (i := 1) (j := 1) (by rfl) (by rfl) d_Model_later_1) d_Model_later_2) (og_anil))) (by decide) ok_Model_isGrave (v_Model_isGrave (by decide)) og_w1678 d_Model_later_3) d_Model_later_6 (by decide))) (og_cnot (og_cbne (tgt := 22) (og_callVz (og_acons (og_aload_n (i := 0) (t := 15) (j := 0) (by rfl) (by rfl) d_Model_later_9) (og_acons (og_iload_n (i := 2) (j := 2) (by rfl) (by rfl) d_Model_later_10) (og_acons (og_iconst (by decide) d_Model_later_11) (og_acons (og_bipush (by decide) d_Model_later_12) (og_anil))))) (by decide) ok_Model_isAhead (v_Model_isAhead (by decide)) og_w1776 d_Model_later_14) d_Model_later_17 (by decide)))) (og_sreti (og_iconst (by decide) d_Model_later_20) d_Model_later_21) (og_sskip)) (og_sseq (og_callVv (og_acons (og_aload_n (i := 0) (t := 15) (j := 0) (by rfl) (by rfl) d_Model_later_22) (og_anil)) ok_Model_putsAside (v_Model_putsAside (by decide)) og_w1780 d_Model_later_23) (og_sseq (og_callVv (og_acons (og_aload_n (i := 0) (t := 15) (j := 0) (by rfl) (by rfl) d_Model_later_26) (og_acons (og_iload_n (i := 2) (j := 2) (by rfl) (by rfl) d_Model_later_27) (og_anil))) ok_Model_monthsGo (v_Model_monthsGo (by decide)) og_w1784 d_Model_later_28) (og_sseq (og_istore_n (i := 3) (lt' := [(0, 17), (1, 0), (2, 0), (3, 0)]) (og_callVi (og_acons (og_aload_n (i := 0) (t := 15) (j := 0) (by rfl) (by rfl) d_Model_later_31) (og_acons (og_iload_n (i := 1) (j := 1) (by rfl) (by rfl) d_Model_later_32) (og_anil))) (by decide) ok_Model_inGrave (v_Model_inGrave (by decide)) og_w1661 d_Model_later_33) (by rfl) (by decide) (by decide) d_Model_later_36) (og_sseq (og_callVv (og_acons (og_aload_n (i := 0) (t := 15) (j := 0) (by rfl) (by rfl) d_Model_later_37) (og_anil)) ok_Model_takesBack (v_Model_takesBack (by decide)) og_w1808 d_Model_later_38) (og_sreti (og_iload_n (i := 3) (j := 3) (by rfl) (by rfl) d_Model_later_41) d_Model_later_42)))))) (fun h => by cases h)
abbrev og_c_Model_filled : ByteArray := prog_14_method_69_code
abbrev og_y_Model_filled : MethodName := ⟨"OpenGravesModel", "filled", "(I)I"⟩
theorem v_Model_filled {own : String} {idx dep : Nat} (h : 9 + 1 ≤ dep) : og_sV own idx og_y_Model_filled og_c_Model_filled 4 0 9 dep 13 1 := ⟨⟨12, og_sl_Model, og_T_Model, 102, rfl, by decide, rfl⟩, og_w1817, og_w1818, og_w17, og_w1819, ⟨by decide +kernel, by decide +kernel, by decide +kernel⟩, h, by decide⟩
theorem d_Model_filled_0 : decode og_c_Model_filled 0 = .ok (.aload_n 0, 1) := by decide +kernel
theorem d_Model_filled_1 : decode og_c_Model_filled 1 = .ok (.iload_n 1, 1) := by decide +kernel
theorem d_Model_filled_2 : decode og_c_Model_filled 2 = .ok (.i2l, 1) := by decide +kernel
theorem d_Model_filled_3 : decode og_c_Model_filled 3 = .ok (.invokevirtual 485, 3) := by decide +kernel
theorem d_Model_filled_6 : decode og_c_Model_filled 6 = .ok (.ifCond .ne 5, 3) := by decide +kernel
theorem d_Model_filled_9 : decode og_c_Model_filled 9 = .ok (.iconst (-1), 1) := by decide +kernel
theorem d_Model_filled_10 : decode og_c_Model_filled 10 = .ok (.ireturn, 1) := by decide +kernel
theorem d_Model_filled_11 : decode og_c_Model_filled 11 = .ok (.iconst 0, 1) := by decide +kernel
theorem d_Model_filled_12 : decode og_c_Model_filled 12 = .ok (.istore_n 2, 1) := by decide +kernel
theorem d_Model_filled_13 : decode og_c_Model_filled 13 = .ok (.aload_n 0, 1) := by decide +kernel
theorem d_Model_filled_14 : decode og_c_Model_filled 14 = .ok (.invokevirtual 508, 3) := by decide +kernel
theorem d_Model_filled_17 : decode og_c_Model_filled 17 = .ok (.aload_n 0, 1) := by decide +kernel
theorem d_Model_filled_18 : decode og_c_Model_filled 18 = .ok (.iload_n 1, 1) := by decide +kernel
theorem d_Model_filled_19 : decode og_c_Model_filled 19 = .ok (.invokevirtual 387, 3) := by decide +kernel
theorem d_Model_filled_22 : decode og_c_Model_filled 22 = .ok (.iconst (-1), 1) := by decide +kernel
theorem d_Model_filled_23 : decode og_c_Model_filled 23 = .ok (.if_icmp .ne 31, 3) := by decide +kernel
theorem d_Model_filled_26 : decode og_c_Model_filled 26 = .ok (.iload_n 2, 1) := by decide +kernel
theorem d_Model_filled_27 : decode og_c_Model_filled 27 = .ok (.bipush 60, 2) := by decide +kernel
theorem d_Model_filled_29 : decode og_c_Model_filled 29 = .ok (.if_icmp .ge 25, 3) := by decide +kernel
theorem d_Model_filled_32 : decode og_c_Model_filled 32 = .ok (.aload_n 0, 1) := by decide +kernel
theorem d_Model_filled_33 : decode og_c_Model_filled 33 = .ok (.getfield 124, 3) := by decide +kernel
theorem d_Model_filled_36 : decode og_c_Model_filled 36 = .ok (.iconst 0, 1) := by decide +kernel
theorem d_Model_filled_37 : decode og_c_Model_filled 37 = .ok (.iaload, 1) := by decide +kernel
theorem d_Model_filled_38 : decode og_c_Model_filled 38 = .ok (.sipush 999, 3) := by decide +kernel
theorem d_Model_filled_41 : decode og_c_Model_filled 41 = .ok (.if_icmp .ge 13, 3) := by decide +kernel
theorem d_Model_filled_44 : decode og_c_Model_filled 44 = .ok (.aload_n 0, 1) := by decide +kernel
theorem d_Model_filled_45 : decode og_c_Model_filled 45 = .ok (.invokevirtual 468, 3) := by decide +kernel
theorem d_Model_filled_48 : decode og_c_Model_filled 48 = .ok (.iinc 2 1, 3) := by decide +kernel
theorem d_Model_filled_51 : decode og_c_Model_filled 51 = .ok (.goto (-34), 3) := by decide +kernel
theorem d_Model_filled_54 : decode og_c_Model_filled 54 = .ok (.aload_n 0, 1) := by decide +kernel
theorem d_Model_filled_55 : decode og_c_Model_filled 55 = .ok (.iload_n 1, 1) := by decide +kernel
theorem d_Model_filled_56 : decode og_c_Model_filled 56 = .ok (.invokevirtual 387, 3) := by decide +kernel
theorem d_Model_filled_59 : decode og_c_Model_filled 59 = .ok (.iconst (-1), 1) := by decide +kernel
theorem d_Model_filled_60 : decode og_c_Model_filled 60 = .ok (.if_icmp .eq 7, 3) := by decide +kernel
theorem d_Model_filled_63 : decode og_c_Model_filled 63 = .ok (.iconst 1, 1) := by decide +kernel
theorem d_Model_filled_64 : decode og_c_Model_filled 64 = .ok (.goto 4, 3) := by decide +kernel
theorem d_Model_filled_67 : decode og_c_Model_filled 67 = .ok (.iconst 0, 1) := by decide +kernel
theorem d_Model_filled_68 : decode og_c_Model_filled 68 = .ok (.istore_n 3, 1) := by decide +kernel
theorem d_Model_filled_69 : decode og_c_Model_filled 69 = .ok (.aload_n 0, 1) := by decide +kernel
theorem d_Model_filled_70 : decode og_c_Model_filled 70 = .ok (.invokevirtual 514, 3) := by decide +kernel
theorem d_Model_filled_73 : decode og_c_Model_filled 73 = .ok (.iload_n 3, 1) := by decide +kernel
theorem d_Model_filled_74 : decode og_c_Model_filled 74 = .ok (.ifCond .eq 7, 3) := by decide +kernel
theorem d_Model_filled_77 : decode og_c_Model_filled 77 = .ok (.iload_n 2, 1) := by decide +kernel
theorem d_Model_filled_78 : decode og_c_Model_filled 78 = .ok (.goto 4, 3) := by decide +kernel
theorem d_Model_filled_81 : decode og_c_Model_filled 81 = .ok (.iconst (-1), 1) := by decide +kernel
theorem d_Model_filled_82 : decode og_c_Model_filled 82 = .ok (.ireturn, 1) := by decide +kernel
def m_Model_filled : og_Dn := og_den [17, 0] 4 0 (og_seq (og_if (og_not (og_cb (og_call m_Model_isGrave [og_loc 0, og_i2l (og_loc 1)]))) (og_ret (og_k (-1))) (og_skip)) (og_seq (og_set 2 (og_k 0)) (og_seq (og_exp (og_call m_Model_putsAside [og_loc 0])) (og_cut (og_while (og_and (og_and (og_cc og_req (og_call m_Model_inGrave [og_loc 0, og_loc 1]) (og_k (-1))) (og_cc og_rlt (og_loc 2) (og_k 60))) (og_cc og_rlt (og_ald 204 (og_fix (fun _ => 1037) (og_loc 0)) (og_k 0)) (og_k 999))) (og_seq (og_exp (og_call m_Model_monthGoes [og_loc 0])) (og_inc 2 1)) (og_skip)) (og_seq (og_set 3 (og_ec (og_cc og_rne (og_call m_Model_inGrave [og_loc 0, og_loc 1]) (og_k (-1))))) (og_seq (og_exp (og_call m_Model_takesBack [og_loc 0])) (og_ret (og_ei (og_cb (og_loc 3)) (og_loc 2) (og_k (-1))))))))))
set_option maxRecDepth 20000 in
theorem ok_Model_filled : og_MOK og_y_Model_filled og_c_Model_filled 4 0 9 [17, 0] m_Model_filled := og_method (b := 0) (lt' := []) (by decide +kernel) (by decide) (by decide) (og_sseq (og_sif (T := 9) (F := 11) (og_cnot (og_cbne (tgt := 11) (og_callVz (og_acons (og_aload_n (i := 0) (t := 15) (j := 0) (by rfl) (by rfl) d_Model_filled_0) (og_acons (og_i2l_ (og_iload_n (i := 1) (j := 1) (by rfl) (by rfl) d_Model_filled_1) d_Model_filled_2) (og_anil))) (by decide) ok_Model_isGrave (v_Model_isGrave (by decide)) og_w1678 d_Model_filled_3) d_Model_filled_6 (by decide))) (og_sreti (og_iconst (by decide) d_Model_filled_9) d_Model_filled_10) (og_sskip)) (og_sseq (og_istore_n (i := 2) (lt' := [(0, 17), (1, 0), (2, 0)]) (og_iconst (by decide) d_Model_filled_11) (by rfl) (by decide) (by decide) d_Model_filled_12) (og_sseq (og_callVv (og_acons (og_aload_n (i := 0) (t := 15) (j := 0) (by rfl) (by rfl) d_Model_filled_13) (og_anil)) ok_Model_putsAside (v_Model_putsAside (by decide)) og_w1780 d_Model_filled_14) (og_scut (og_swhile (T := 44) (F := 54) (cp0 := 17) (og_cand (og_cand (og_ccn og_n_eq (og_ine (tgt := 54) (og_callVi (og_acons (og_aload_n (i := 0) (t := 15) (j := 0) (by rfl) (by rfl) d_Model_filled_17) (og_acons (og_iload_n (i := 1) (j := 1) (by rfl) (by rfl) d_Model_filled_18) (og_anil))) (by decide) ok_Model_inGrave (v_Model_inGrave (by decide)) og_w1661 d_Model_filled_19) (og_iconst (by decide) d_Model_filled_22) d_Model_filled_23 (by decide))) (og_ccn og_n_lt (og_ige (tgt := 54) (og_iload_n (i := 2) (j := 2) (by rfl) (by rfl) d_Model_filled_26) (og_bipush (by decide) d_Model_filled_27) d_Model_filled_29 (by decide)))) (og_ccn og_n_lt (og_ige (tgt := 54) (og_iald (N := 204) (og_f_Model_now (og_aload_n (i := 0) (t := 15) (j := 0) (by rfl) (by rfl) d_Model_filled_32) og_w1192 d_Model_filled_33) (by rfl) (og_iconst (by decide) d_Model_filled_36) d_Model_filled_37) (og_sipush (by decide) d_Model_filled_38) d_Model_filled_41 (by decide)))) (og_sseq (og_callVv (og_acons (og_aload_n (i := 0) (t := 15) (j := 0) (by rfl) (by rfl) d_Model_filled_44) (og_anil)) ok_Model_monthGoes (v_Model_monthGoes (by decide)) og_w1788 d_Model_filled_45) (og_gS (b' := 17) (og_iinc (j := 2) (lt' := [(0, 17), (1, 0), (2, 0)]) (by rfl) (by decide) (by decide) d_Model_filled_48) d_Model_filled_51 (by decide))) (og_sskip)) (og_sseq (og_istore_n (i := 3) (lt' := [(0, 17), (1, 0), (2, 0), (3, 0)]) (og_econd (b := 0) (og_ccn og_n_ne (og_ieq (tgt := 67) (og_callVi (og_acons (og_aload_n (i := 0) (t := 15) (j := 0) (by rfl) (by rfl) d_Model_filled_54) (og_acons (og_iload_n (i := 1) (j := 1) (by rfl) (by rfl) d_Model_filled_55) (og_anil))) (by decide) ok_Model_inGrave (v_Model_inGrave (by decide)) og_w1661 d_Model_filled_56) (og_iconst (by decide) d_Model_filled_59) d_Model_filled_60 (by decide))) d_Model_filled_63 d_Model_filled_64 (by decide) d_Model_filled_67 (by rfl)) (by rfl) (by decide) (by decide) d_Model_filled_68) (og_sseq (og_callVv (og_acons (og_aload_n (i := 0) (t := 15) (j := 0) (by rfl) (by rfl) d_Model_filled_69) (og_anil)) ok_Model_takesBack (v_Model_takesBack (by decide)) og_w1808 d_Model_filled_70) (og_sreti (og_eite (og_cbeq (tgt := 81) (og_iload_n (i := 3) (j := 3) (by rfl) (by rfl) d_Model_filled_73) d_Model_filled_74 (by decide)) (og_iload_n (i := 2) (j := 2) (by rfl) (by rfl) d_Model_filled_77) d_Model_filled_78 (by decide) (og_iconst (by decide) d_Model_filled_81)) d_Model_filled_82))))))) (fun h => by cases h)
abbrev og_c_Model_taken : ByteArray := prog_14_method_70_code
abbrev og_y_Model_taken : MethodName := ⟨"OpenGravesModel", "taken", "(I)I"⟩
theorem v_Model_taken {own : String} {idx dep : Nat} (h : 10 + 1 ≤ dep) : og_sV own idx og_y_Model_taken og_c_Model_taken 2 0 10 dep 13 1 := ⟨⟨12, og_sl_Model, og_T_Model, 102, rfl, by decide, rfl⟩, og_w1821, og_w1822, og_w17, og_w1823, ⟨by decide +kernel, by decide +kernel, by decide +kernel⟩, h, by decide⟩
theorem d_Model_taken_0 : decode og_c_Model_taken 0 = .ok (.aload_n 0, 1) := by decide +kernel
theorem d_Model_taken_1 : decode og_c_Model_taken 1 = .ok (.iload_n 1, 1) := by decide +kernel
theorem d_Model_taken_2 : decode og_c_Model_taken 2 = .ok (.iconst 0, 1) := by decide +kernel
theorem d_Model_taken_3 : decode og_c_Model_taken 3 = .ok (.bipush 60, 2) := by decide +kernel
theorem d_Model_taken_5 : decode og_c_Model_taken 5 = .ok (.invokevirtual 505, 3) := by decide +kernel
theorem d_Model_taken_8 : decode og_c_Model_taken 8 = .ok (.ifCond .ne 5, 3) := by decide +kernel
theorem d_Model_taken_11 : decode og_c_Model_taken 11 = .ok (.iconst (-1), 1) := by decide +kernel
theorem d_Model_taken_12 : decode og_c_Model_taken 12 = .ok (.ireturn, 1) := by decide +kernel
theorem d_Model_taken_13 : decode og_c_Model_taken 13 = .ok (.aload_n 0, 1) := by decide +kernel
theorem d_Model_taken_14 : decode og_c_Model_taken 14 = .ok (.invokevirtual 508, 3) := by decide +kernel
theorem d_Model_taken_17 : decode og_c_Model_taken 17 = .ok (.aload_n 0, 1) := by decide +kernel
theorem d_Model_taken_18 : decode og_c_Model_taken 18 = .ok (.iload_n 1, 1) := by decide +kernel
theorem d_Model_taken_19 : decode og_c_Model_taken 19 = .ok (.invokevirtual 511, 3) := by decide +kernel
theorem d_Model_taken_22 : decode og_c_Model_taken 22 = .ok (.aload_n 0, 1) := by decide +kernel
theorem d_Model_taken_23 : decode og_c_Model_taken 23 = .ok (.invokevirtual 514, 3) := by decide +kernel
theorem d_Model_taken_26 : decode og_c_Model_taken 26 = .ok (.aload_n 0, 1) := by decide +kernel
theorem d_Model_taken_27 : decode og_c_Model_taken 27 = .ok (.getfield 465, 3) := by decide +kernel
theorem d_Model_taken_30 : decode og_c_Model_taken 30 = .ok (.ireturn, 1) := by decide +kernel
def m_Model_taken : og_Dn := og_den [17, 0] 2 0 (og_seq (og_if (og_not (og_cb (og_call m_Model_isAhead [og_loc 0, og_loc 1, og_k 0, og_k 60]))) (og_ret (og_k (-1))) (og_skip)) (og_seq (og_exp (og_call m_Model_putsAside [og_loc 0])) (og_seq (og_exp (og_call m_Model_monthsGo [og_loc 0, og_loc 1])) (og_seq (og_exp (og_call m_Model_takesBack [og_loc 0])) (og_ret (og_get 54 (og_loc 0)))))))
set_option maxRecDepth 20000 in
theorem ok_Model_taken : og_MOK og_y_Model_taken og_c_Model_taken 2 0 10 [17, 0] m_Model_taken := og_method (b := 0) (lt' := []) (by decide +kernel) (by decide) (by decide) (og_sseq (og_sif (T := 11) (F := 13) (og_cnot (og_cbne (tgt := 13) (og_callVz (og_acons (og_aload_n (i := 0) (t := 15) (j := 0) (by rfl) (by rfl) d_Model_taken_0) (og_acons (og_iload_n (i := 1) (j := 1) (by rfl) (by rfl) d_Model_taken_1) (og_acons (og_iconst (by decide) d_Model_taken_2) (og_acons (og_bipush (by decide) d_Model_taken_3) (og_anil))))) (by decide) ok_Model_isAhead (v_Model_isAhead (by decide)) og_w1776 d_Model_taken_5) d_Model_taken_8 (by decide))) (og_sreti (og_iconst (by decide) d_Model_taken_11) d_Model_taken_12) (og_sskip)) (og_sseq (og_callVv (og_acons (og_aload_n (i := 0) (t := 15) (j := 0) (by rfl) (by rfl) d_Model_taken_13) (og_anil)) ok_Model_putsAside (v_Model_putsAside (by decide)) og_w1780 d_Model_taken_14) (og_sseq (og_callVv (og_acons (og_aload_n (i := 0) (t := 15) (j := 0) (by rfl) (by rfl) d_Model_taken_17) (og_acons (og_iload_n (i := 1) (j := 1) (by rfl) (by rfl) d_Model_taken_18) (og_anil))) ok_Model_monthsGo (v_Model_monthsGo (by decide)) og_w1784 d_Model_taken_19) (og_sseq (og_callVv (og_acons (og_aload_n (i := 0) (t := 15) (j := 0) (by rfl) (by rfl) d_Model_taken_22) (og_anil)) ok_Model_takesBack (v_Model_takesBack (by decide)) og_w1808 d_Model_taken_23) (og_sreti (og_f_Model_takenMany (og_aload_n (i := 0) (t := 15) (j := 0) (by rfl) (by rfl) d_Model_taken_26) og_w1197 d_Model_taken_27) d_Model_taken_30))))) (fun h => by cases h)
abbrev og_c_Model_mostBy : ByteArray := prog_14_method_71_code
abbrev og_y_Model_mostBy : MethodName := ⟨"OpenGravesModel", "mostBy", "(III)I"⟩
theorem v_Model_mostBy {own : String} {idx dep : Nat} (h : 3 + 1 ≤ dep) : og_sV own idx og_y_Model_mostBy og_c_Model_mostBy 4 0 3 dep 13 3 := ⟨⟨12, og_sl_Model, og_T_Model, 102, rfl, by decide, rfl⟩, og_w1838, (og_memP (⟨"OpenGravesModel", "mostBy", "(III)I"⟩, 102) (List.mem_of_getElem? (i := 124) (by decide +kernel))), og_w17, og_w1839, ⟨by decide +kernel, by decide +kernel, by decide +kernel⟩, h, by decide⟩
theorem d_Model_mostBy_0 : decode og_c_Model_mostBy 0 = .ok (.iload_n 3, 1) := by decide +kernel
theorem d_Model_mostBy_1 : decode og_c_Model_mostBy 1 = .ok (.iconst (-1), 1) := by decide +kernel
theorem d_Model_mostBy_2 : decode og_c_Model_mostBy 2 = .ok (.if_icmp .ne 18, 3) := by decide +kernel
theorem d_Model_mostBy_5 : decode og_c_Model_mostBy 5 = .ok (.aload_n 0, 1) := by decide +kernel
theorem d_Model_mostBy_6 : decode og_c_Model_mostBy 6 = .ok (.getfield 130, 3) := by decide +kernel
theorem d_Model_mostBy_9 : decode og_c_Model_mostBy 9 = .ok (.sipush 256, 3) := by decide +kernel
theorem d_Model_mostBy_12 : decode og_c_Model_mostBy 12 = .ok (.iload_n 1, 1) := by decide +kernel
theorem d_Model_mostBy_13 : decode og_c_Model_mostBy 13 = .ok (.iconst 1, 1) := by decide +kernel
theorem d_Model_mostBy_14 : decode og_c_Model_mostBy 14 = .ok (.iadd, 1) := by decide +kernel
theorem d_Model_mostBy_15 : decode og_c_Model_mostBy 15 = .ok (.imul, 1) := by decide +kernel
theorem d_Model_mostBy_16 : decode og_c_Model_mostBy 16 = .ok (.iload_n 2, 1) := by decide +kernel
theorem d_Model_mostBy_17 : decode og_c_Model_mostBy 17 = .ok (.iadd, 1) := by decide +kernel
theorem d_Model_mostBy_18 : decode og_c_Model_mostBy 18 = .ok (.iaload, 1) := by decide +kernel
theorem d_Model_mostBy_19 : decode og_c_Model_mostBy 19 = .ok (.ireturn, 1) := by decide +kernel
theorem d_Model_mostBy_20 : decode og_c_Model_mostBy 20 = .ok (.aload_n 0, 1) := by decide +kernel
theorem d_Model_mostBy_21 : decode og_c_Model_mostBy 21 = .ok (.iload_n 1, 1) := by decide +kernel
theorem d_Model_mostBy_22 : decode og_c_Model_mostBy 22 = .ok (.invokevirtual 390, 3) := by decide +kernel
theorem d_Model_mostBy_25 : decode og_c_Model_mostBy 25 = .ok (.ifCond .eq 29, 3) := by decide +kernel
theorem d_Model_mostBy_28 : decode og_c_Model_mostBy 28 = .ok (.aload_n 0, 1) := by decide +kernel
theorem d_Model_mostBy_29 : decode og_c_Model_mostBy 29 = .ok (.iload_n 3, 1) := by decide +kernel
theorem d_Model_mostBy_30 : decode og_c_Model_mostBy 30 = .ok (.invokevirtual 393, 3) := by decide +kernel
theorem d_Model_mostBy_33 : decode og_c_Model_mostBy 33 = .ok (.ifCond .eq 21, 3) := by decide +kernel
theorem d_Model_mostBy_36 : decode og_c_Model_mostBy 36 = .ok (.iload_n 2, 1) := by decide +kernel
theorem d_Model_mostBy_37 : decode og_c_Model_mostBy 37 = .ok (.iload_n 3, 1) := by decide +kernel
theorem d_Model_mostBy_38 : decode og_c_Model_mostBy 38 = .ok (.ishr, 1) := by decide +kernel
theorem d_Model_mostBy_39 : decode og_c_Model_mostBy 39 = .ok (.iconst 1, 1) := by decide +kernel
theorem d_Model_mostBy_40 : decode og_c_Model_mostBy 40 = .ok (.iand, 1) := by decide +kernel
theorem d_Model_mostBy_41 : decode og_c_Model_mostBy 41 = .ok (.iconst 1, 1) := by decide +kernel
theorem d_Model_mostBy_42 : decode og_c_Model_mostBy 42 = .ok (.if_icmp .eq 12, 3) := by decide +kernel
theorem d_Model_mostBy_45 : decode og_c_Model_mostBy 45 = .ok (.aload_n 0, 1) := by decide +kernel
theorem d_Model_mostBy_46 : decode og_c_Model_mostBy 46 = .ok (.iload_n 3, 1) := by decide +kernel
theorem d_Model_mostBy_47 : decode og_c_Model_mostBy 47 = .ok (.iload_n 1, 1) := by decide +kernel
theorem d_Model_mostBy_48 : decode og_c_Model_mostBy 48 = .ok (.invokevirtual 431, 3) := by decide +kernel
theorem d_Model_mostBy_51 : decode og_c_Model_mostBy 51 = .ok (.ifCond .ne 5, 3) := by decide +kernel
theorem d_Model_mostBy_54 : decode og_c_Model_mostBy 54 = .ok (.iconst (-1), 1) := by decide +kernel
theorem d_Model_mostBy_55 : decode og_c_Model_mostBy 55 = .ok (.ireturn, 1) := by decide +kernel
theorem d_Model_mostBy_56 : decode og_c_Model_mostBy 56 = .ok (.iconst 1, 1) := by decide +kernel
theorem d_Model_mostBy_57 : decode og_c_Model_mostBy 57 = .ok (.aload_n 0, 1) := by decide +kernel
theorem d_Model_mostBy_58 : decode og_c_Model_mostBy 58 = .ok (.getfield 130, 3) := by decide +kernel
theorem d_Model_mostBy_61 : decode og_c_Model_mostBy 61 = .ok (.sipush 256, 3) := by decide +kernel
theorem d_Model_mostBy_64 : decode og_c_Model_mostBy 64 = .ok (.iload_n 1, 1) := by decide +kernel
theorem d_Model_mostBy_65 : decode og_c_Model_mostBy 65 = .ok (.iconst 1, 1) := by decide +kernel
theorem d_Model_mostBy_66 : decode og_c_Model_mostBy 66 = .ok (.iadd, 1) := by decide +kernel
theorem d_Model_mostBy_67 : decode og_c_Model_mostBy 67 = .ok (.imul, 1) := by decide +kernel
theorem d_Model_mostBy_68 : decode og_c_Model_mostBy 68 = .ok (.iload_n 2, 1) := by decide +kernel
theorem d_Model_mostBy_69 : decode og_c_Model_mostBy 69 = .ok (.iconst 1, 1) := by decide +kernel
theorem d_Model_mostBy_70 : decode og_c_Model_mostBy 70 = .ok (.iload_n 3, 1) := by decide +kernel
theorem d_Model_mostBy_71 : decode og_c_Model_mostBy 71 = .ok (.ishl, 1) := by decide +kernel
theorem d_Model_mostBy_72 : decode og_c_Model_mostBy 72 = .ok (.ior, 1) := by decide +kernel
theorem d_Model_mostBy_73 : decode og_c_Model_mostBy 73 = .ok (.iadd, 1) := by decide +kernel
theorem d_Model_mostBy_74 : decode og_c_Model_mostBy 74 = .ok (.iaload, 1) := by decide +kernel
theorem d_Model_mostBy_75 : decode og_c_Model_mostBy 75 = .ok (.iadd, 1) := by decide +kernel
theorem d_Model_mostBy_76 : decode og_c_Model_mostBy 76 = .ok (.ireturn, 1) := by decide +kernel
def m_Model_mostBy : og_Dn := og_den [17, 0, 0, 0] 4 0 (og_seq (og_if (og_cc og_req (og_loc 3) (og_k (-1))) (og_ret (og_ald 1792 (og_fix (fun _ => 1039) (og_loc 0)) (og_add (og_mul (og_k 256) (og_add (og_loc 1) (og_k 1))) (og_loc 2)))) (og_skip)) (og_seq (og_if (og_or (og_or (og_or (og_not (og_cb (og_call m_Model_doesAsk [og_loc 0, og_loc 1]))) (og_not (og_cb (og_call m_Model_isAlive [og_loc 0, og_loc 3])))) (og_cc og_req (og_bop og_oand (og_bop og_oshr (og_loc 2) (og_loc 3)) (og_k 1)) (og_k 1))) (og_not (og_cb (og_call m_Model_doesFit [og_loc 0, og_loc 3, og_loc 1])))) (og_ret (og_k (-1))) (og_skip)) (og_ret (og_add (og_k 1) (og_ald 1792 (og_fix (fun _ => 1039) (og_loc 0)) (og_add (og_mul (og_k 256) (og_add (og_loc 1) (og_k 1))) (og_bop og_oor (og_loc 2) (og_bop og_oshl (og_k 1) (og_loc 3)))))))))
set_option maxRecDepth 20000 in
theorem ok_Model_mostBy : og_MOK og_y_Model_mostBy og_c_Model_mostBy 4 0 3 [17, 0, 0, 0] m_Model_mostBy := og_method (b := 0) (lt' := []) (by decide +kernel) (by decide) (by decide) (og_sseq (og_sif (T := 5) (F := 20) (og_ccn og_n_eq (og_ine (tgt := 20) (og_iload_n (i := 3) (j := 3) (by rfl) (by rfl) d_Model_mostBy_0) (og_iconst (by decide) d_Model_mostBy_1) d_Model_mostBy_2 (by decide))) (og_sreti (og_iald (N := 1792) (og_f_Model_rowMost (og_aload_n (i := 0) (t := 15) (j := 0) (by rfl) (by rfl) d_Model_mostBy_5) og_w1198 d_Model_mostBy_6) (by rfl) (og_iadd (og_imul (og_sipush (by decide) d_Model_mostBy_9) (og_iadd (og_iload_n (i := 1) (j := 1) (by rfl) (by rfl) d_Model_mostBy_12) (og_iconst (by decide) d_Model_mostBy_13) d_Model_mostBy_14) d_Model_mostBy_15) (og_iload_n (i := 2) (j := 2) (by rfl) (by rfl) d_Model_mostBy_16) d_Model_mostBy_17) d_Model_mostBy_18) d_Model_mostBy_19) (og_sskip)) (og_sseq (og_sif (T := 54) (F := 56) (og_cor (og_cor (og_cor (og_cnot (og_cbeq (tgt := 54) (og_callVz (og_acons (og_aload_n (i := 0) (t := 15) (j := 0) (by rfl) (by rfl) d_Model_mostBy_20) (og_acons (og_iload_n (i := 1) (j := 1) (by rfl) (by rfl) d_Model_mostBy_21) (og_anil))) (by decide) ok_Model_doesAsk (v_Model_doesAsk (by decide)) og_w1653 d_Model_mostBy_22) d_Model_mostBy_25 (by decide))) (og_cnot (og_cbeq (tgt := 54) (og_callVz (og_acons (og_aload_n (i := 0) (t := 15) (j := 0) (by rfl) (by rfl) d_Model_mostBy_28) (og_acons (og_iload_n (i := 3) (j := 3) (by rfl) (by rfl) d_Model_mostBy_29) (og_anil))) (by decide) ok_Model_isAlive (v_Model_isAlive (by decide)) og_w1641 d_Model_mostBy_30) d_Model_mostBy_33 (by decide)))) (og_ieq (tgt := 54) (og_iand (og_ishr (og_iload_n (i := 2) (j := 2) (by rfl) (by rfl) d_Model_mostBy_36) (og_iload_n (i := 3) (j := 3) (by rfl) (by rfl) d_Model_mostBy_37) d_Model_mostBy_38) (og_iconst (by decide) d_Model_mostBy_39) d_Model_mostBy_40) (og_iconst (by decide) d_Model_mostBy_41) d_Model_mostBy_42 (by decide))) (og_cnot (og_cbne (tgt := 56) (og_callVz (og_acons (og_aload_n (i := 0) (t := 15) (j := 0) (by rfl) (by rfl) d_Model_mostBy_45) (og_acons (og_iload_n (i := 3) (j := 3) (by rfl) (by rfl) d_Model_mostBy_46) (og_acons (og_iload_n (i := 1) (j := 1) (by rfl) (by rfl) d_Model_mostBy_47) (og_anil)))) (by decide) ok_Model_doesFit (v_Model_doesFit (by decide)) og_w1763 d_Model_mostBy_48) d_Model_mostBy_51 (by decide)))) (og_sreti (og_iconst (by decide) d_Model_mostBy_54) d_Model_mostBy_55) (og_sskip)) (og_sreti (og_iadd (og_iconst (by decide) d_Model_mostBy_56) (og_iald (N := 1792) (og_f_Model_rowMost (og_aload_n (i := 0) (t := 15) (j := 0) (by rfl) (by rfl) d_Model_mostBy_57) og_w1198 d_Model_mostBy_58) (by rfl) (og_iadd (og_imul (og_sipush (by decide) d_Model_mostBy_61) (og_iadd (og_iload_n (i := 1) (j := 1) (by rfl) (by rfl) d_Model_mostBy_64) (og_iconst (by decide) d_Model_mostBy_65) d_Model_mostBy_66) d_Model_mostBy_67) (og_ior (og_iload_n (i := 2) (j := 2) (by rfl) (by rfl) d_Model_mostBy_68) (og_ishl (og_iconst (by decide) d_Model_mostBy_69) (og_iload_n (i := 3) (j := 3) (by rfl) (by rfl) d_Model_mostBy_70) d_Model_mostBy_71) d_Model_mostBy_72) d_Model_mostBy_73) d_Model_mostBy_74) d_Model_mostBy_75) d_Model_mostBy_76))) (fun h => by cases h)
abbrev og_c_Model_harmBy : ByteArray := prog_14_method_72_code
abbrev og_y_Model_harmBy : MethodName := ⟨"OpenGravesModel", "harmBy", "(III)I"⟩
theorem v_Model_harmBy {own : String} {idx dep : Nat} (h : 1 + 1 ≤ dep) : og_sV own idx og_y_Model_harmBy og_c_Model_harmBy 4 0 1 dep 13 3 := ⟨⟨12, og_sl_Model, og_T_Model, 102, rfl, by decide, rfl⟩, og_w1842, (og_memP (⟨"OpenGravesModel", "harmBy", "(III)I"⟩, 102) (List.mem_of_getElem? (i := 125) (by decide +kernel))), og_w17, og_w1843, ⟨by decide +kernel, by decide +kernel, by decide +kernel⟩, h, by decide⟩
theorem d_Model_harmBy_0 : decode og_c_Model_harmBy 0 = .ok (.iload_n 3, 1) := by decide +kernel
theorem d_Model_harmBy_1 : decode og_c_Model_harmBy 1 = .ok (.iconst (-1), 1) := by decide +kernel
theorem d_Model_harmBy_2 : decode og_c_Model_harmBy 2 = .ok (.if_icmp .ne 20, 3) := by decide +kernel
theorem d_Model_harmBy_5 : decode og_c_Model_harmBy 5 = .ok (.aload_n 0, 1) := by decide +kernel
theorem d_Model_harmBy_6 : decode og_c_Model_harmBy 6 = .ok (.getfield 133, 3) := by decide +kernel
theorem d_Model_harmBy_9 : decode og_c_Model_harmBy 9 = .ok (.sipush 256, 3) := by decide +kernel
theorem d_Model_harmBy_12 : decode og_c_Model_harmBy 12 = .ok (.iload_n 1, 1) := by decide +kernel
theorem d_Model_harmBy_13 : decode og_c_Model_harmBy 13 = .ok (.iconst 1, 1) := by decide +kernel
theorem d_Model_harmBy_14 : decode og_c_Model_harmBy 14 = .ok (.iadd, 1) := by decide +kernel
theorem d_Model_harmBy_15 : decode og_c_Model_harmBy 15 = .ok (.imul, 1) := by decide +kernel
theorem d_Model_harmBy_16 : decode og_c_Model_harmBy 16 = .ok (.iload_n 2, 1) := by decide +kernel
theorem d_Model_harmBy_17 : decode og_c_Model_harmBy 17 = .ok (.iadd, 1) := by decide +kernel
theorem d_Model_harmBy_18 : decode og_c_Model_harmBy 18 = .ok (.iaload, 1) := by decide +kernel
theorem d_Model_harmBy_19 : decode og_c_Model_harmBy 19 = .ok (.goto 28, 3) := by decide +kernel
theorem d_Model_harmBy_22 : decode og_c_Model_harmBy 22 = .ok (.aload_n 0, 1) := by decide +kernel
theorem d_Model_harmBy_23 : decode og_c_Model_harmBy 23 = .ok (.getfield 136, 3) := by decide +kernel
theorem d_Model_harmBy_26 : decode og_c_Model_harmBy 26 = .ok (.iload_n 3, 1) := by decide +kernel
theorem d_Model_harmBy_27 : decode og_c_Model_harmBy 27 = .ok (.iaload, 1) := by decide +kernel
theorem d_Model_harmBy_28 : decode og_c_Model_harmBy 28 = .ok (.aload_n 0, 1) := by decide +kernel
theorem d_Model_harmBy_29 : decode og_c_Model_harmBy 29 = .ok (.getfield 133, 3) := by decide +kernel
theorem d_Model_harmBy_32 : decode og_c_Model_harmBy 32 = .ok (.sipush 256, 3) := by decide +kernel
theorem d_Model_harmBy_35 : decode og_c_Model_harmBy 35 = .ok (.iload_n 1, 1) := by decide +kernel
theorem d_Model_harmBy_36 : decode og_c_Model_harmBy 36 = .ok (.iconst 1, 1) := by decide +kernel
theorem d_Model_harmBy_37 : decode og_c_Model_harmBy 37 = .ok (.iadd, 1) := by decide +kernel
theorem d_Model_harmBy_38 : decode og_c_Model_harmBy 38 = .ok (.imul, 1) := by decide +kernel
theorem d_Model_harmBy_39 : decode og_c_Model_harmBy 39 = .ok (.iload_n 2, 1) := by decide +kernel
theorem d_Model_harmBy_40 : decode og_c_Model_harmBy 40 = .ok (.iconst 1, 1) := by decide +kernel
theorem d_Model_harmBy_41 : decode og_c_Model_harmBy 41 = .ok (.iload_n 3, 1) := by decide +kernel
theorem d_Model_harmBy_42 : decode og_c_Model_harmBy 42 = .ok (.ishl, 1) := by decide +kernel
theorem d_Model_harmBy_43 : decode og_c_Model_harmBy 43 = .ok (.ior, 1) := by decide +kernel
theorem d_Model_harmBy_44 : decode og_c_Model_harmBy 44 = .ok (.iadd, 1) := by decide +kernel
theorem d_Model_harmBy_45 : decode og_c_Model_harmBy 45 = .ok (.iaload, 1) := by decide +kernel
theorem d_Model_harmBy_46 : decode og_c_Model_harmBy 46 = .ok (.iadd, 1) := by decide +kernel
theorem d_Model_harmBy_47 : decode og_c_Model_harmBy 47 = .ok (.ireturn, 1) := by decide +kernel
def m_Model_harmBy : og_Dn := og_den [17, 0, 0, 0] 4 0 (og_ret (og_ei (og_cc og_req (og_loc 3) (og_k (-1))) (og_ald 1792 (og_fix (fun _ => 1040) (og_loc 0)) (og_add (og_mul (og_k 256) (og_add (og_loc 1) (og_k 1))) (og_loc 2))) (og_add (og_ald 8 (og_fix (fun _ => 1041) (og_loc 0)) (og_loc 3)) (og_ald 1792 (og_fix (fun _ => 1040) (og_loc 0)) (og_add (og_mul (og_k 256) (og_add (og_loc 1) (og_k 1))) (og_bop og_oor (og_loc 2) (og_bop og_oshl (og_k 1) (og_loc 3))))))))
set_option maxRecDepth 20000 in
theorem ok_Model_harmBy : og_MOK og_y_Model_harmBy og_c_Model_harmBy 4 0 1 [17, 0, 0, 0] m_Model_harmBy := og_method (b := 0) (lt' := []) (by decide +kernel) (by decide) (by decide) (og_sreti (og_eite (og_ccn og_n_eq (og_ine (tgt := 22) (og_iload_n (i := 3) (j := 3) (by rfl) (by rfl) d_Model_harmBy_0) (og_iconst (by decide) d_Model_harmBy_1) d_Model_harmBy_2 (by decide))) (og_iald (N := 1792) (og_f_Model_rowHarm (og_aload_n (i := 0) (t := 15) (j := 0) (by rfl) (by rfl) d_Model_harmBy_5) og_w1199 d_Model_harmBy_6) (by rfl) (og_iadd (og_imul (og_sipush (by decide) d_Model_harmBy_9) (og_iadd (og_iload_n (i := 1) (j := 1) (by rfl) (by rfl) d_Model_harmBy_12) (og_iconst (by decide) d_Model_harmBy_13) d_Model_harmBy_14) d_Model_harmBy_15) (og_iload_n (i := 2) (j := 2) (by rfl) (by rfl) d_Model_harmBy_16) d_Model_harmBy_17) d_Model_harmBy_18) d_Model_harmBy_19 (by decide) (og_iadd (og_iald (N := 8) (og_f_Model_harms (og_aload_n (i := 0) (t := 15) (j := 0) (by rfl) (by rfl) d_Model_harmBy_22) og_w1200 d_Model_harmBy_23) (by rfl) (og_iload_n (i := 3) (j := 3) (by rfl) (by rfl) d_Model_harmBy_26) d_Model_harmBy_27) (og_iald (N := 1792) (og_f_Model_rowHarm (og_aload_n (i := 0) (t := 15) (j := 0) (by rfl) (by rfl) d_Model_harmBy_28) og_w1199 d_Model_harmBy_29) (by rfl) (og_iadd (og_imul (og_sipush (by decide) d_Model_harmBy_32) (og_iadd (og_iload_n (i := 1) (j := 1) (by rfl) (by rfl) d_Model_harmBy_35) (og_iconst (by decide) d_Model_harmBy_36) d_Model_harmBy_37) d_Model_harmBy_38) (og_ior (og_iload_n (i := 2) (j := 2) (by rfl) (by rfl) d_Model_harmBy_39) (og_ishl (og_iconst (by decide) d_Model_harmBy_40) (og_iload_n (i := 3) (j := 3) (by rfl) (by rfl) d_Model_harmBy_41) d_Model_harmBy_42) d_Model_harmBy_43) d_Model_harmBy_44) d_Model_harmBy_45) d_Model_harmBy_46)) d_Model_harmBy_47) (fun h => by cases h)
abbrev og_c_Model_rowLays : ByteArray := prog_14_method_73_code
abbrev og_y_Model_rowLays : MethodName := ⟨"OpenGravesModel", "rowLays", "(II)V"⟩
theorem v_Model_rowLays {own : String} {idx dep : Nat} (h : 4 + 1 ≤ dep) : og_sV own idx og_y_Model_rowLays og_c_Model_rowLays 8 2 4 dep 13 2 := ⟨⟨12, og_sl_Model, og_T_Model, 102, rfl, by decide, rfl⟩, og_w1834, (og_memP (⟨"OpenGravesModel", "rowLays", "(II)V"⟩, 102) (List.mem_of_getElem? (i := 123) (by decide +kernel))), og_w17, og_w1835, ⟨by decide +kernel, by decide +kernel, by decide +kernel⟩, h, by decide⟩
theorem d_Model_rowLays_0 : decode og_c_Model_rowLays 0 = .ok (.iconst (-1), 1) := by decide +kernel
theorem d_Model_rowLays_1 : decode og_c_Model_rowLays 1 = .ok (.istore_n 3, 1) := by decide +kernel
theorem d_Model_rowLays_2 : decode og_c_Model_rowLays 2 = .ok (.iconst 0, 1) := by decide +kernel
theorem d_Model_rowLays_3 : decode og_c_Model_rowLays 3 = .ok (.istore 4, 2) := by decide +kernel
theorem d_Model_rowLays_5 : decode og_c_Model_rowLays 5 = .ok (.iconst (-1), 1) := by decide +kernel
theorem d_Model_rowLays_6 : decode og_c_Model_rowLays 6 = .ok (.istore 5, 2) := by decide +kernel
theorem d_Model_rowLays_8 : decode og_c_Model_rowLays 8 = .ok (.iload 5, 2) := by decide +kernel
theorem d_Model_rowLays_10 : decode og_c_Model_rowLays 10 = .ok (.aload_n 0, 1) := by decide +kernel
theorem d_Model_rowLays_11 : decode og_c_Model_rowLays 11 = .ok (.invokevirtual 381, 3) := by decide +kernel
theorem d_Model_rowLays_14 : decode og_c_Model_rowLays 14 = .ok (.if_icmp .ge 67, 3) := by decide +kernel
theorem d_Model_rowLays_17 : decode og_c_Model_rowLays 17 = .ok (.aload_n 0, 1) := by decide +kernel
theorem d_Model_rowLays_18 : decode og_c_Model_rowLays 18 = .ok (.iload_n 1, 1) := by decide +kernel
theorem d_Model_rowLays_19 : decode og_c_Model_rowLays 19 = .ok (.iload_n 2, 1) := by decide +kernel
theorem d_Model_rowLays_20 : decode og_c_Model_rowLays 20 = .ok (.iload 5, 2) := by decide +kernel
theorem d_Model_rowLays_22 : decode og_c_Model_rowLays 22 = .ok (.invokevirtual 517, 3) := by decide +kernel
theorem d_Model_rowLays_25 : decode og_c_Model_rowLays 25 = .ok (.istore 6, 2) := by decide +kernel
theorem d_Model_rowLays_27 : decode og_c_Model_rowLays 27 = .ok (.iload 6, 2) := by decide +kernel
theorem d_Model_rowLays_29 : decode og_c_Model_rowLays 29 = .ok (.iconst (-1), 1) := by decide +kernel
theorem d_Model_rowLays_30 : decode og_c_Model_rowLays 30 = .ok (.if_icmp .eq 45, 3) := by decide +kernel
theorem d_Model_rowLays_33 : decode og_c_Model_rowLays 33 = .ok (.iload 6, 2) := by decide +kernel
theorem d_Model_rowLays_35 : decode og_c_Model_rowLays 35 = .ok (.iload_n 3, 1) := by decide +kernel
theorem d_Model_rowLays_36 : decode og_c_Model_rowLays 36 = .ok (.if_icmp .ge 6, 3) := by decide +kernel
theorem d_Model_rowLays_39 : decode og_c_Model_rowLays 39 = .ok (.goto 36, 3) := by decide +kernel
theorem d_Model_rowLays_42 : decode og_c_Model_rowLays 42 = .ok (.aload_n 0, 1) := by decide +kernel
theorem d_Model_rowLays_43 : decode og_c_Model_rowLays 43 = .ok (.iload_n 1, 1) := by decide +kernel
theorem d_Model_rowLays_44 : decode og_c_Model_rowLays 44 = .ok (.iload_n 2, 1) := by decide +kernel
theorem d_Model_rowLays_45 : decode og_c_Model_rowLays 45 = .ok (.iload 5, 2) := by decide +kernel
theorem d_Model_rowLays_47 : decode og_c_Model_rowLays 47 = .ok (.invokevirtual 521, 3) := by decide +kernel
theorem d_Model_rowLays_50 : decode og_c_Model_rowLays 50 = .ok (.istore 7, 2) := by decide +kernel
theorem d_Model_rowLays_52 : decode og_c_Model_rowLays 52 = .ok (.iload 6, 2) := by decide +kernel
theorem d_Model_rowLays_54 : decode og_c_Model_rowLays 54 = .ok (.iload_n 3, 1) := by decide +kernel
theorem d_Model_rowLays_55 : decode og_c_Model_rowLays 55 = .ok (.if_icmp .ne 13, 3) := by decide +kernel
theorem d_Model_rowLays_58 : decode og_c_Model_rowLays 58 = .ok (.iload 7, 2) := by decide +kernel
theorem d_Model_rowLays_60 : decode og_c_Model_rowLays 60 = .ok (.iload 4, 2) := by decide +kernel
theorem d_Model_rowLays_62 : decode og_c_Model_rowLays 62 = .ok (.if_icmp .lt 6, 3) := by decide +kernel
theorem d_Model_rowLays_65 : decode og_c_Model_rowLays 65 = .ok (.goto 10, 3) := by decide +kernel
theorem d_Model_rowLays_68 : decode og_c_Model_rowLays 68 = .ok (.iload 6, 2) := by decide +kernel
theorem d_Model_rowLays_70 : decode og_c_Model_rowLays 70 = .ok (.istore_n 3, 1) := by decide +kernel
theorem d_Model_rowLays_71 : decode og_c_Model_rowLays 71 = .ok (.iload 7, 2) := by decide +kernel
theorem d_Model_rowLays_73 : decode og_c_Model_rowLays 73 = .ok (.istore 4, 2) := by decide +kernel
theorem d_Model_rowLays_75 : decode og_c_Model_rowLays 75 = .ok (.iinc 5 1, 3) := by decide +kernel
theorem d_Model_rowLays_78 : decode og_c_Model_rowLays 78 = .ok (.goto (-70), 3) := by decide +kernel
theorem d_Model_rowLays_81 : decode og_c_Model_rowLays 81 = .ok (.aload_n 0, 1) := by decide +kernel
theorem d_Model_rowLays_82 : decode og_c_Model_rowLays 82 = .ok (.getfield 130, 3) := by decide +kernel
theorem d_Model_rowLays_85 : decode og_c_Model_rowLays 85 = .ok (.sipush 256, 3) := by decide +kernel
theorem d_Model_rowLays_88 : decode og_c_Model_rowLays 88 = .ok (.iload_n 1, 1) := by decide +kernel
theorem d_Model_rowLays_89 : decode og_c_Model_rowLays 89 = .ok (.imul, 1) := by decide +kernel
theorem d_Model_rowLays_90 : decode og_c_Model_rowLays 90 = .ok (.iload_n 2, 1) := by decide +kernel
theorem d_Model_rowLays_91 : decode og_c_Model_rowLays 91 = .ok (.iadd, 1) := by decide +kernel
theorem d_Model_rowLays_92 : decode og_c_Model_rowLays 92 = .ok (.iload_n 3, 1) := by decide +kernel
theorem d_Model_rowLays_93 : decode og_c_Model_rowLays 93 = .ok (.iastore, 1) := by decide +kernel
theorem d_Model_rowLays_94 : decode og_c_Model_rowLays 94 = .ok (.aload_n 0, 1) := by decide +kernel
theorem d_Model_rowLays_95 : decode og_c_Model_rowLays 95 = .ok (.getfield 133, 3) := by decide +kernel
theorem d_Model_rowLays_98 : decode og_c_Model_rowLays 98 = .ok (.sipush 256, 3) := by decide +kernel
theorem d_Model_rowLays_101 : decode og_c_Model_rowLays 101 = .ok (.iload_n 1, 1) := by decide +kernel
theorem d_Model_rowLays_102 : decode og_c_Model_rowLays 102 = .ok (.imul, 1) := by decide +kernel
theorem d_Model_rowLays_103 : decode og_c_Model_rowLays 103 = .ok (.iload_n 2, 1) := by decide +kernel
theorem d_Model_rowLays_104 : decode og_c_Model_rowLays 104 = .ok (.iadd, 1) := by decide +kernel
theorem d_Model_rowLays_105 : decode og_c_Model_rowLays 105 = .ok (.iload 4, 2) := by decide +kernel
theorem d_Model_rowLays_107 : decode og_c_Model_rowLays 107 = .ok (.iastore, 1) := by decide +kernel
theorem d_Model_rowLays_108 : decode og_c_Model_rowLays 108 = .ok (.return_, 1) := by decide +kernel
def m_Model_rowLays : og_Dn := og_den [17, 0, 0] 8 2 (og_seq (og_set 3 (og_k (-1))) (og_seq (og_set 4 (og_k 0)) (og_cut (og_seq (og_set 5 (og_k (-1))) (og_while (og_cc og_rlt (og_loc 5) (og_call m_Model_personMany [og_loc 0])) (og_seq (og_set 6 (og_call m_Model_mostBy [og_loc 0, og_loc 1, og_loc 2, og_loc 5])) (og_seq (og_if (og_or (og_cc og_req (og_loc 6) (og_k (-1))) (og_cc og_rlt (og_loc 6) (og_loc 3))) (og_cont) (og_skip)) (og_seq (og_set 7 (og_call m_Model_harmBy [og_loc 0, og_loc 1, og_loc 2, og_loc 5])) (og_seq (og_if (og_and (og_cc og_req (og_loc 6) (og_loc 3)) (og_cc og_rge (og_loc 7) (og_loc 4))) (og_cont) (og_skip)) (og_seq (og_set 3 (og_loc 6)) (og_set 4 (og_loc 7))))))) (og_inc 5 1))) (og_seq (og_ast 1792 (og_fix (fun _ => 1039) (og_loc 0)) (og_add (og_mul (og_k 256) (og_loc 1)) (og_loc 2)) (og_loc 3)) (og_ast 1792 (og_fix (fun _ => 1040) (og_loc 0)) (og_add (og_mul (og_k 256) (og_loc 1)) (og_loc 2)) (og_loc 4))))))
set_option maxRecDepth 20000 in
theorem ok_Model_rowLays : og_MOK og_y_Model_rowLays og_c_Model_rowLays 8 2 4 [17, 0, 0] m_Model_rowLays := og_method (b := 108) (lt' := [(0, 17), (1, 0), (2, 0)]) (by decide +kernel) (by decide) (by decide) (og_sdrop (lt' := [(0, 17), (1, 0), (2, 0), (3, 0), (4, 0)]) (lt2 := [(0, 17), (1, 0), (2, 0)]) (og_sseq (og_istore_n (i := 3) (lt' := [(0, 17), (1, 0), (2, 0), (3, 0)]) (og_iconst (by decide) d_Model_rowLays_0) (by rfl) (by decide) (by decide) d_Model_rowLays_1) (og_sseq (og_istore (i := 4) (lt' := [(0, 17), (1, 0), (2, 0), (3, 0), (4, 0)]) (og_iconst (by decide) d_Model_rowLays_2) (by decide) (by decide) d_Model_rowLays_3) (og_scut (og_sdrop (lt' := [(0, 17), (1, 0), (2, 0), (3, 0), (4, 0), (5, 0)]) (lt2 := [(0, 17), (1, 0), (2, 0), (3, 0), (4, 0)]) (og_sseq (og_istore (i := 5) (lt' := [(0, 17), (1, 0), (2, 0), (3, 0), (4, 0), (5, 0)]) (og_iconst (by decide) d_Model_rowLays_5) (by decide) (by decide) d_Model_rowLays_6) (og_swhile (T := 17) (F := 81) (cp0 := 75) (og_ccn og_n_lt (og_ige (tgt := 81) (og_iload (i := 5) (j := 5) (by rfl) d_Model_rowLays_8) (og_callVi (og_acons (og_aload_n (i := 0) (t := 15) (j := 0) (by rfl) (by rfl) d_Model_rowLays_10) (og_anil)) (by decide) ok_Model_personMany (v_Model_personMany (by decide)) og_w1637 d_Model_rowLays_11) d_Model_rowLays_14 (by decide))) (og_sdrop (lt' := [(0, 17), (1, 0), (2, 0), (3, 0), (4, 0), (5, 0), (6, 0), (7, 0)]) (lt2 := [(0, 17), (1, 0), (2, 0), (3, 0), (4, 0), (5, 0)]) (og_sseq (og_istore (i := 6) (lt' := [(0, 17), (1, 0), (2, 0), (3, 0), (4, 0), (5, 0), (6, 0)]) (og_callVi (og_acons (og_aload_n (i := 0) (t := 15) (j := 0) (by rfl) (by rfl) d_Model_rowLays_17) (og_acons (og_iload_n (i := 1) (j := 1) (by rfl) (by rfl) d_Model_rowLays_18) (og_acons (og_iload_n (i := 2) (j := 2) (by rfl) (by rfl) d_Model_rowLays_19) (og_acons (og_iload (i := 5) (j := 5) (by rfl) d_Model_rowLays_20) (og_anil))))) (by decide) ok_Model_mostBy (v_Model_mostBy (by decide)) og_w1836 d_Model_rowLays_22) (by decide) (by decide) d_Model_rowLays_25) (og_sseq (og_sif (T := 75) (F := 42) (og_cor (og_ieq (tgt := 75) (og_iload (i := 6) (j := 6) (by rfl) d_Model_rowLays_27) (og_iconst (by decide) d_Model_rowLays_29) d_Model_rowLays_30 (by decide)) (og_gT (T' := 75) (og_ccn og_n_lt (og_ige (tgt := 42) (og_iload (i := 6) (j := 6) (by rfl) d_Model_rowLays_33) (og_iload_n (i := 3) (j := 3) (by rfl) (by rfl) d_Model_rowLays_35) d_Model_rowLays_36 (by decide))) d_Model_rowLays_39 (by decide))) (og_scont (by decide)) (og_sskip)) (og_sseq (og_istore (i := 7) (lt' := [(0, 17), (1, 0), (2, 0), (3, 0), (4, 0), (5, 0), (6, 0), (7, 0)]) (og_callVi (og_acons (og_aload_n (i := 0) (t := 15) (j := 0) (by rfl) (by rfl) d_Model_rowLays_42) (og_acons (og_iload_n (i := 1) (j := 1) (by rfl) (by rfl) d_Model_rowLays_43) (og_acons (og_iload_n (i := 2) (j := 2) (by rfl) (by rfl) d_Model_rowLays_44) (og_acons (og_iload (i := 5) (j := 5) (by rfl) d_Model_rowLays_45) (og_anil))))) (by decide) ok_Model_harmBy (v_Model_harmBy (by decide)) og_w1840 d_Model_rowLays_47) (by decide) (by decide) d_Model_rowLays_50) (og_sseq (og_sif (T := 75) (F := 68) (og_cand (og_ccn og_n_eq (og_ine (tgt := 68) (og_iload (i := 6) (j := 6) (by rfl) d_Model_rowLays_52) (og_iload_n (i := 3) (j := 3) (by rfl) (by rfl) d_Model_rowLays_54) d_Model_rowLays_55 (by decide))) (og_gT (T' := 75) (og_ccn og_n_ge (og_ilt (tgt := 68) (og_iload (i := 7) (j := 7) (by rfl) d_Model_rowLays_58) (og_iload (i := 4) (j := 4) (by rfl) d_Model_rowLays_60) d_Model_rowLays_62 (by decide))) d_Model_rowLays_65 (by decide))) (og_scont (by decide)) (og_sskip)) (og_sseq (og_istore_n (i := 3) (lt' := [(0, 17), (1, 0), (2, 0), (3, 0), (4, 0), (5, 0), (6, 0), (7, 0)]) (og_iload (i := 6) (j := 6) (by rfl) d_Model_rowLays_68) (by rfl) (by decide) (by decide) d_Model_rowLays_70) (og_istore (i := 4) (lt' := [(0, 17), (1, 0), (2, 0), (3, 0), (4, 0), (5, 0), (6, 0), (7, 0)]) (og_iload (i := 7) (j := 7) (by rfl) d_Model_rowLays_71) (by decide) (by decide) d_Model_rowLays_73)))))) (by decide)) (og_gS (b' := 8) (og_iinc (j := 5) (lt' := [(0, 17), (1, 0), (2, 0), (3, 0), (4, 0), (5, 0)]) (by rfl) (by decide) (by decide) d_Model_rowLays_75) d_Model_rowLays_78 (by decide)))) (by decide)) (og_sseq (og_iastore (N := 1792) (og_f_Model_rowMost (og_aload_n (i := 0) (t := 15) (j := 0) (by rfl) (by rfl) d_Model_rowLays_81) og_w1198 d_Model_rowLays_82) (by rfl) (og_iadd (og_imul (og_sipush (by decide) d_Model_rowLays_85) (og_iload_n (i := 1) (j := 1) (by rfl) (by rfl) d_Model_rowLays_88) d_Model_rowLays_89) (og_iload_n (i := 2) (j := 2) (by rfl) (by rfl) d_Model_rowLays_90) d_Model_rowLays_91) (og_iload_n (i := 3) (j := 3) (by rfl) (by rfl) d_Model_rowLays_92) d_Model_rowLays_93) (og_iastore (N := 1792) (og_f_Model_rowHarm (og_aload_n (i := 0) (t := 15) (j := 0) (by rfl) (by rfl) d_Model_rowLays_94) og_w1199 d_Model_rowLays_95) (by rfl) (og_iadd (og_imul (og_sipush (by decide) d_Model_rowLays_98) (og_iload_n (i := 1) (j := 1) (by rfl) (by rfl) d_Model_rowLays_101) d_Model_rowLays_102) (og_iload_n (i := 2) (j := 2) (by rfl) (by rfl) d_Model_rowLays_103) d_Model_rowLays_104) (og_iload (i := 4) (j := 4) (by rfl) d_Model_rowLays_105) d_Model_rowLays_107))))) (by decide)) (fun _ => d_Model_rowLays_108)
abbrev og_c_Model_laysRows : ByteArray := prog_14_method_74_code
abbrev og_y_Model_laysRows : MethodName := ⟨"OpenGravesModel", "laysRows", "()V"⟩
theorem v_Model_laysRows {own : String} {idx dep : Nat} (h : 7 + 1 ≤ dep) : og_sV own idx og_y_Model_laysRows og_c_Model_laysRows 3 2 7 dep 13 0 := ⟨⟨12, og_sl_Model, og_T_Model, 102, rfl, by decide, rfl⟩, og_w1830, (og_memP (⟨"OpenGravesModel", "laysRows", "()V"⟩, 102) (List.mem_of_getElem? (i := 122) (by decide +kernel))), og_w17, og_w1831, ⟨by decide +kernel, by decide +kernel, by decide +kernel⟩, h, by decide⟩
theorem d_Model_laysRows_0 : decode og_c_Model_laysRows 0 = .ok (.iconst 0, 1) := by decide +kernel
theorem d_Model_laysRows_1 : decode og_c_Model_laysRows 1 = .ok (.istore_n 1, 1) := by decide +kernel
theorem d_Model_laysRows_2 : decode og_c_Model_laysRows 2 = .ok (.iload_n 1, 1) := by decide +kernel
theorem d_Model_laysRows_3 : decode og_c_Model_laysRows 3 = .ok (.aload_n 0, 1) := by decide +kernel
theorem d_Model_laysRows_4 : decode og_c_Model_laysRows 4 = .ok (.invokevirtual 381, 3) := by decide +kernel
theorem d_Model_laysRows_7 : decode og_c_Model_laysRows 7 = .ok (.if_icmp .ge 20, 3) := by decide +kernel
theorem d_Model_laysRows_10 : decode og_c_Model_laysRows 10 = .ok (.aload_n 0, 1) := by decide +kernel
theorem d_Model_laysRows_11 : decode og_c_Model_laysRows 11 = .ok (.getfield 136, 3) := by decide +kernel
theorem d_Model_laysRows_14 : decode og_c_Model_laysRows 14 = .ok (.iload_n 1, 1) := by decide +kernel
theorem d_Model_laysRows_15 : decode og_c_Model_laysRows 15 = .ok (.aload_n 0, 1) := by decide +kernel
theorem d_Model_laysRows_16 : decode og_c_Model_laysRows 16 = .ok (.iload_n 1, 1) := by decide +kernel
theorem d_Model_laysRows_17 : decode og_c_Model_laysRows 17 = .ok (.invokevirtual 497, 3) := by decide +kernel
theorem d_Model_laysRows_20 : decode og_c_Model_laysRows 20 = .ok (.iastore, 1) := by decide +kernel
theorem d_Model_laysRows_21 : decode og_c_Model_laysRows 21 = .ok (.iinc 1 1, 3) := by decide +kernel
theorem d_Model_laysRows_24 : decode og_c_Model_laysRows 24 = .ok (.goto (-22), 3) := by decide +kernel
theorem d_Model_laysRows_27 : decode og_c_Model_laysRows 27 = .ok (.iconst 0, 1) := by decide +kernel
theorem d_Model_laysRows_28 : decode og_c_Model_laysRows 28 = .ok (.istore_n 1, 1) := by decide +kernel
theorem d_Model_laysRows_29 : decode og_c_Model_laysRows 29 = .ok (.iload_n 1, 1) := by decide +kernel
theorem d_Model_laysRows_30 : decode og_c_Model_laysRows 30 = .ok (.sipush 256, 3) := by decide +kernel
theorem d_Model_laysRows_33 : decode og_c_Model_laysRows 33 = .ok (.if_icmp .ge 41, 3) := by decide +kernel
theorem d_Model_laysRows_36 : decode og_c_Model_laysRows 36 = .ok (.aload_n 0, 1) := by decide +kernel
theorem d_Model_laysRows_37 : decode og_c_Model_laysRows 37 = .ok (.getfield 130, 3) := by decide +kernel
theorem d_Model_laysRows_40 : decode og_c_Model_laysRows 40 = .ok (.sipush 256, 3) := by decide +kernel
theorem d_Model_laysRows_43 : decode og_c_Model_laysRows 43 = .ok (.aload_n 0, 1) := by decide +kernel
theorem d_Model_laysRows_44 : decode og_c_Model_laysRows 44 = .ok (.invokevirtual 378, 3) := by decide +kernel
theorem d_Model_laysRows_47 : decode og_c_Model_laysRows 47 = .ok (.imul, 1) := by decide +kernel
theorem d_Model_laysRows_48 : decode og_c_Model_laysRows 48 = .ok (.iload_n 1, 1) := by decide +kernel
theorem d_Model_laysRows_49 : decode og_c_Model_laysRows 49 = .ok (.iadd, 1) := by decide +kernel
theorem d_Model_laysRows_50 : decode og_c_Model_laysRows 50 = .ok (.iconst 0, 1) := by decide +kernel
theorem d_Model_laysRows_51 : decode og_c_Model_laysRows 51 = .ok (.iastore, 1) := by decide +kernel
theorem d_Model_laysRows_52 : decode og_c_Model_laysRows 52 = .ok (.aload_n 0, 1) := by decide +kernel
theorem d_Model_laysRows_53 : decode og_c_Model_laysRows 53 = .ok (.getfield 133, 3) := by decide +kernel
theorem d_Model_laysRows_56 : decode og_c_Model_laysRows 56 = .ok (.sipush 256, 3) := by decide +kernel
theorem d_Model_laysRows_59 : decode og_c_Model_laysRows 59 = .ok (.aload_n 0, 1) := by decide +kernel
theorem d_Model_laysRows_60 : decode og_c_Model_laysRows 60 = .ok (.invokevirtual 378, 3) := by decide +kernel
theorem d_Model_laysRows_63 : decode og_c_Model_laysRows 63 = .ok (.imul, 1) := by decide +kernel
theorem d_Model_laysRows_64 : decode og_c_Model_laysRows 64 = .ok (.iload_n 1, 1) := by decide +kernel
theorem d_Model_laysRows_65 : decode og_c_Model_laysRows 65 = .ok (.iadd, 1) := by decide +kernel
theorem d_Model_laysRows_66 : decode og_c_Model_laysRows 66 = .ok (.iconst 0, 1) := by decide +kernel
theorem d_Model_laysRows_67 : decode og_c_Model_laysRows 67 = .ok (.iastore, 1) := by decide +kernel
theorem d_Model_laysRows_68 : decode og_c_Model_laysRows 68 = .ok (.iinc 1 1, 3) := by decide +kernel
theorem d_Model_laysRows_71 : decode og_c_Model_laysRows 71 = .ok (.goto (-42), 3) := by decide +kernel
theorem d_Model_laysRows_74 : decode og_c_Model_laysRows 74 = .ok (.aload_n 0, 1) := by decide +kernel
theorem d_Model_laysRows_75 : decode og_c_Model_laysRows 75 = .ok (.invokevirtual 378, 3) := by decide +kernel
theorem d_Model_laysRows_78 : decode og_c_Model_laysRows 78 = .ok (.iconst 1, 1) := by decide +kernel
theorem d_Model_laysRows_79 : decode og_c_Model_laysRows 79 = .ok (.isub, 1) := by decide +kernel
theorem d_Model_laysRows_80 : decode og_c_Model_laysRows 80 = .ok (.istore_n 1, 1) := by decide +kernel
theorem d_Model_laysRows_81 : decode og_c_Model_laysRows 81 = .ok (.iload_n 1, 1) := by decide +kernel
theorem d_Model_laysRows_82 : decode og_c_Model_laysRows 82 = .ok (.ifCond .lt 30, 3) := by decide +kernel
theorem d_Model_laysRows_85 : decode og_c_Model_laysRows 85 = .ok (.iconst 0, 1) := by decide +kernel
theorem d_Model_laysRows_86 : decode og_c_Model_laysRows 86 = .ok (.istore_n 2, 1) := by decide +kernel
theorem d_Model_laysRows_87 : decode og_c_Model_laysRows 87 = .ok (.iload_n 2, 1) := by decide +kernel
theorem d_Model_laysRows_88 : decode og_c_Model_laysRows 88 = .ok (.sipush 256, 3) := by decide +kernel
theorem d_Model_laysRows_91 : decode og_c_Model_laysRows 91 = .ok (.if_icmp .ge 15, 3) := by decide +kernel
theorem d_Model_laysRows_94 : decode og_c_Model_laysRows 94 = .ok (.aload_n 0, 1) := by decide +kernel
theorem d_Model_laysRows_95 : decode og_c_Model_laysRows 95 = .ok (.iload_n 1, 1) := by decide +kernel
theorem d_Model_laysRows_96 : decode og_c_Model_laysRows 96 = .ok (.iload_n 2, 1) := by decide +kernel
theorem d_Model_laysRows_97 : decode og_c_Model_laysRows 97 = .ok (.invokevirtual 524, 3) := by decide +kernel
theorem d_Model_laysRows_100 : decode og_c_Model_laysRows 100 = .ok (.iinc 2 1, 3) := by decide +kernel
theorem d_Model_laysRows_103 : decode og_c_Model_laysRows 103 = .ok (.goto (-16), 3) := by decide +kernel
theorem d_Model_laysRows_106 : decode og_c_Model_laysRows 106 = .ok (.iinc 1 (-1), 3) := by decide +kernel
theorem d_Model_laysRows_109 : decode og_c_Model_laysRows 109 = .ok (.goto (-28), 3) := by decide +kernel
theorem d_Model_laysRows_112 : decode og_c_Model_laysRows 112 = .ok (.return_, 1) := by decide +kernel
def m_Model_laysRows : og_Dn := og_den [17] 3 2 (og_cut (og_seq (og_set 1 (og_k 0)) (og_while (og_cc og_rlt (og_loc 1) (og_call m_Model_personMany [og_loc 0])) (og_ast 8 (og_fix (fun _ => 1041) (og_loc 0)) (og_loc 1) (og_call m_Model_harmOf [og_loc 0, og_loc 1])) (og_inc 1 1))) (og_cut (og_seq (og_set 1 (og_k 0)) (og_while (og_cc og_rlt (og_loc 1) (og_k 256)) (og_seq (og_ast 1792 (og_fix (fun _ => 1039) (og_loc 0)) (og_add (og_mul (og_k 256) (og_call m_Model_graveMany [og_loc 0])) (og_loc 1)) (og_k 0)) (og_ast 1792 (og_fix (fun _ => 1040) (og_loc 0)) (og_add (og_mul (og_k 256) (og_call m_Model_graveMany [og_loc 0])) (og_loc 1)) (og_k 0))) (og_inc 1 1))) (og_seq (og_set 1 (og_sub (og_call m_Model_graveMany [og_loc 0]) (og_k 1))) (og_while (og_cc og_rge (og_loc 1) (og_k 0)) (og_seq (og_set 2 (og_k 0)) (og_while (og_cc og_rlt (og_loc 2) (og_k 256)) (og_exp (og_call m_Model_rowLays [og_loc 0, og_loc 1, og_loc 2])) (og_inc 2 1))) (og_inc 1 (-1))))))
set_option maxRecDepth 20000 in
theorem ok_Model_laysRows : og_MOK og_y_Model_laysRows og_c_Model_laysRows 3 2 7 [17] m_Model_laysRows := og_method (b := 112) (lt' := [(0, 17)]) (by decide +kernel) (by decide) (by decide) (og_scut (og_sdrop (lt' := [(0, 17), (1, 0)]) (lt2 := [(0, 17)]) (og_sseq (og_istore_n (i := 1) (lt' := [(0, 17), (1, 0)]) (og_iconst (by decide) d_Model_laysRows_0) (by rfl) (by decide) (by decide) d_Model_laysRows_1) (og_swhile (T := 10) (F := 27) (cp0 := 21) (og_ccn og_n_lt (og_ige (tgt := 27) (og_iload_n (i := 1) (j := 1) (by rfl) (by rfl) d_Model_laysRows_2) (og_callVi (og_acons (og_aload_n (i := 0) (t := 15) (j := 0) (by rfl) (by rfl) d_Model_laysRows_3) (og_anil)) (by decide) ok_Model_personMany (v_Model_personMany (by decide)) og_w1637 d_Model_laysRows_4) d_Model_laysRows_7 (by decide))) (og_iastore (N := 8) (og_f_Model_harms (og_aload_n (i := 0) (t := 15) (j := 0) (by rfl) (by rfl) d_Model_laysRows_10) og_w1200 d_Model_laysRows_11) (by rfl) (og_iload_n (i := 1) (j := 1) (by rfl) (by rfl) d_Model_laysRows_14) (og_callVi (og_acons (og_aload_n (i := 0) (t := 15) (j := 0) (by rfl) (by rfl) d_Model_laysRows_15) (og_acons (og_iload_n (i := 1) (j := 1) (by rfl) (by rfl) d_Model_laysRows_16) (og_anil))) (by decide) ok_Model_harmOf (v_Model_harmOf (by decide)) og_w1746 d_Model_laysRows_17) d_Model_laysRows_20) (og_gS (b' := 2) (og_iinc (j := 1) (lt' := [(0, 17), (1, 0)]) (by rfl) (by decide) (by decide) d_Model_laysRows_21) d_Model_laysRows_24 (by decide)))) (by decide)) (og_scut (og_sdrop (lt' := [(0, 17), (1, 0)]) (lt2 := [(0, 17)]) (og_sseq (og_istore_n (i := 1) (lt' := [(0, 17), (1, 0)]) (og_iconst (by decide) d_Model_laysRows_27) (by rfl) (by decide) (by decide) d_Model_laysRows_28) (og_swhile (T := 36) (F := 74) (cp0 := 68) (og_ccn og_n_lt (og_ige (tgt := 74) (og_iload_n (i := 1) (j := 1) (by rfl) (by rfl) d_Model_laysRows_29) (og_sipush (by decide) d_Model_laysRows_30) d_Model_laysRows_33 (by decide))) (og_sseq (og_iastore (N := 1792) (og_f_Model_rowMost (og_aload_n (i := 0) (t := 15) (j := 0) (by rfl) (by rfl) d_Model_laysRows_36) og_w1198 d_Model_laysRows_37) (by rfl) (og_iadd (og_imul (og_sipush (by decide) d_Model_laysRows_40) (og_callVi (og_acons (og_aload_n (i := 0) (t := 15) (j := 0) (by rfl) (by rfl) d_Model_laysRows_43) (og_anil)) (by decide) ok_Model_graveMany (v_Model_graveMany (by decide)) og_w1649 d_Model_laysRows_44) d_Model_laysRows_47) (og_iload_n (i := 1) (j := 1) (by rfl) (by rfl) d_Model_laysRows_48) d_Model_laysRows_49) (og_iconst (by decide) d_Model_laysRows_50) d_Model_laysRows_51) (og_iastore (N := 1792) (og_f_Model_rowHarm (og_aload_n (i := 0) (t := 15) (j := 0) (by rfl) (by rfl) d_Model_laysRows_52) og_w1199 d_Model_laysRows_53) (by rfl) (og_iadd (og_imul (og_sipush (by decide) d_Model_laysRows_56) (og_callVi (og_acons (og_aload_n (i := 0) (t := 15) (j := 0) (by rfl) (by rfl) d_Model_laysRows_59) (og_anil)) (by decide) ok_Model_graveMany (v_Model_graveMany (by decide)) og_w1649 d_Model_laysRows_60) d_Model_laysRows_63) (og_iload_n (i := 1) (j := 1) (by rfl) (by rfl) d_Model_laysRows_64) d_Model_laysRows_65) (og_iconst (by decide) d_Model_laysRows_66) d_Model_laysRows_67)) (og_gS (b' := 29) (og_iinc (j := 1) (lt' := [(0, 17), (1, 0)]) (by rfl) (by decide) (by decide) d_Model_laysRows_68) d_Model_laysRows_71 (by decide)))) (by decide)) (og_sdrop (lt' := [(0, 17), (1, 0)]) (lt2 := [(0, 17)]) (og_sseq (og_istore_n (i := 1) (lt' := [(0, 17), (1, 0)]) (og_isub (og_callVi (og_acons (og_aload_n (i := 0) (t := 15) (j := 0) (by rfl) (by rfl) d_Model_laysRows_74) (og_anil)) (by decide) ok_Model_graveMany (v_Model_graveMany (by decide)) og_w1649 d_Model_laysRows_75) (og_iconst (by decide) d_Model_laysRows_78) d_Model_laysRows_79) (by rfl) (by decide) (by decide) d_Model_laysRows_80) (og_swhile (T := 85) (F := 112) (cp0 := 106) (og_ccn og_n_ge (og_zlt (tgt := 112) (og_iload_n (i := 1) (j := 1) (by rfl) (by rfl) d_Model_laysRows_81) d_Model_laysRows_82 (by decide))) (og_sdrop (lt' := [(0, 17), (1, 0), (2, 0)]) (lt2 := [(0, 17), (1, 0)]) (og_sseq (og_istore_n (i := 2) (lt' := [(0, 17), (1, 0), (2, 0)]) (og_iconst (by decide) d_Model_laysRows_85) (by rfl) (by decide) (by decide) d_Model_laysRows_86) (og_swhile (T := 94) (F := 106) (cp0 := 100) (og_ccn og_n_lt (og_ige (tgt := 106) (og_iload_n (i := 2) (j := 2) (by rfl) (by rfl) d_Model_laysRows_87) (og_sipush (by decide) d_Model_laysRows_88) d_Model_laysRows_91 (by decide))) (og_callVv (og_acons (og_aload_n (i := 0) (t := 15) (j := 0) (by rfl) (by rfl) d_Model_laysRows_94) (og_acons (og_iload_n (i := 1) (j := 1) (by rfl) (by rfl) d_Model_laysRows_95) (og_acons (og_iload_n (i := 2) (j := 2) (by rfl) (by rfl) d_Model_laysRows_96) (og_anil)))) ok_Model_rowLays (v_Model_rowLays (by decide)) og_w1832 d_Model_laysRows_97) (og_gS (b' := 87) (og_iinc (j := 2) (lt' := [(0, 17), (1, 0), (2, 0)]) (by rfl) (by decide) (by decide) d_Model_laysRows_100) d_Model_laysRows_103 (by decide)))) (by decide)) (og_gS (b' := 81) (og_iinc (j := 1) (lt' := [(0, 17), (1, 0)]) (by rfl) (by decide) (by decide) d_Model_laysRows_106) d_Model_laysRows_109 (by decide)))) (by decide)))) (fun _ => d_Model_laysRows_112)
abbrev og_c_Model_row : ByteArray := prog_14_method_75_code
abbrev og_y_Model_row : MethodName := ⟨"OpenGravesModel", "row", "(I)I"⟩
theorem v_Model_row {own : String} {idx dep : Nat} (h : 8 + 1 ≤ dep) : og_sV own idx og_y_Model_row og_c_Model_row 5 0 8 dep 13 1 := ⟨⟨12, og_sl_Model, og_T_Model, 102, rfl, by decide, rfl⟩, og_w1825, og_w1826, og_w17, og_w1827, ⟨by decide +kernel, by decide +kernel, by decide +kernel⟩, h, by decide⟩
theorem d_Model_row_0 : decode og_c_Model_row 0 = .ok (.iload_n 1, 1) := by decide +kernel
theorem d_Model_row_1 : decode og_c_Model_row 1 = .ok (.i2l, 1) := by decide +kernel
theorem d_Model_row_2 : decode og_c_Model_row 2 = .ok (.lconst 0, 1) := by decide +kernel
theorem d_Model_row_3 : decode og_c_Model_row 3 = .ok (.iconst 1, 1) := by decide +kernel
theorem d_Model_row_4 : decode og_c_Model_row 4 = .ok (.aload_n 0, 1) := by decide +kernel
theorem d_Model_row_5 : decode og_c_Model_row 5 = .ok (.invokevirtual 378, 3) := by decide +kernel
theorem d_Model_row_8 : decode og_c_Model_row 8 = .ok (.iadd, 1) := by decide +kernel
theorem d_Model_row_9 : decode og_c_Model_row 9 = .ok (.i2l, 1) := by decide +kernel
theorem d_Model_row_10 : decode og_c_Model_row 10 = .ok (.invokestatic 285, 3) := by decide +kernel
theorem d_Model_row_13 : decode og_c_Model_row 13 = .ok (.ifCond .ne 5, 3) := by decide +kernel
theorem d_Model_row_16 : decode og_c_Model_row 16 = .ok (.iconst (-1), 1) := by decide +kernel
theorem d_Model_row_17 : decode og_c_Model_row 17 = .ok (.ireturn, 1) := by decide +kernel
theorem d_Model_row_18 : decode og_c_Model_row 18 = .ok (.aload_n 0, 1) := by decide +kernel
theorem d_Model_row_19 : decode og_c_Model_row 19 = .ok (.invokevirtual 527, 3) := by decide +kernel
theorem d_Model_row_22 : decode og_c_Model_row 22 = .ok (.iload_n 1, 1) := by decide +kernel
theorem d_Model_row_23 : decode og_c_Model_row 23 = .ok (.iconst 2, 1) := by decide +kernel
theorem d_Model_row_24 : decode og_c_Model_row 24 = .ok (.if_icmp .ge 23, 3) := by decide +kernel
theorem d_Model_row_27 : decode og_c_Model_row 27 = .ok (.iload_n 1, 1) := by decide +kernel
theorem d_Model_row_28 : decode og_c_Model_row 28 = .ok (.ifCond .ne 12, 3) := by decide +kernel
theorem d_Model_row_31 : decode og_c_Model_row 31 = .ok (.aload_n 0, 1) := by decide +kernel
theorem d_Model_row_32 : decode og_c_Model_row 32 = .ok (.getfield 130, 3) := by decide +kernel
theorem d_Model_row_35 : decode og_c_Model_row 35 = .ok (.iconst 0, 1) := by decide +kernel
theorem d_Model_row_36 : decode og_c_Model_row 36 = .ok (.iaload, 1) := by decide +kernel
theorem d_Model_row_37 : decode og_c_Model_row 37 = .ok (.goto 9, 3) := by decide +kernel
theorem d_Model_row_40 : decode og_c_Model_row 40 = .ok (.aload_n 0, 1) := by decide +kernel
theorem d_Model_row_41 : decode og_c_Model_row 41 = .ok (.getfield 133, 3) := by decide +kernel
theorem d_Model_row_44 : decode og_c_Model_row 44 = .ok (.iconst 0, 1) := by decide +kernel
theorem d_Model_row_45 : decode og_c_Model_row 45 = .ok (.iaload, 1) := by decide +kernel
theorem d_Model_row_46 : decode og_c_Model_row 46 = .ok (.ireturn, 1) := by decide +kernel
theorem d_Model_row_47 : decode og_c_Model_row 47 = .ok (.iconst 0, 1) := by decide +kernel
theorem d_Model_row_48 : decode og_c_Model_row 48 = .ok (.istore_n 2, 1) := by decide +kernel
theorem d_Model_row_49 : decode og_c_Model_row 49 = .ok (.iconst (-1), 1) := by decide +kernel
theorem d_Model_row_50 : decode og_c_Model_row 50 = .ok (.istore_n 3, 1) := by decide +kernel
theorem d_Model_row_51 : decode og_c_Model_row 51 = .ok (.iconst 0, 1) := by decide +kernel
theorem d_Model_row_52 : decode og_c_Model_row 52 = .ok (.istore 4, 2) := by decide +kernel
theorem d_Model_row_54 : decode og_c_Model_row 54 = .ok (.iload 4, 2) := by decide +kernel
theorem d_Model_row_56 : decode og_c_Model_row 56 = .ok (.iload_n 1, 1) := by decide +kernel
theorem d_Model_row_57 : decode og_c_Model_row 57 = .ok (.iconst 2, 1) := by decide +kernel
theorem d_Model_row_58 : decode og_c_Model_row 58 = .ok (.isub, 1) := by decide +kernel
theorem d_Model_row_59 : decode og_c_Model_row 59 = .ok (.if_icmp .gt 76, 3) := by decide +kernel
theorem d_Model_row_62 : decode og_c_Model_row 62 = .ok (.iconst (-1), 1) := by decide +kernel
theorem d_Model_row_63 : decode og_c_Model_row 63 = .ok (.istore_n 3, 1) := by decide +kernel
theorem d_Model_row_64 : decode og_c_Model_row 64 = .ok (.aload_n 0, 1) := by decide +kernel
theorem d_Model_row_65 : decode og_c_Model_row 65 = .ok (.iload 4, 2) := by decide +kernel
theorem d_Model_row_67 : decode og_c_Model_row 67 = .ok (.iload_n 2, 1) := by decide +kernel
theorem d_Model_row_68 : decode og_c_Model_row 68 = .ok (.iload_n 3, 1) := by decide +kernel
theorem d_Model_row_69 : decode og_c_Model_row 69 = .ok (.invokevirtual 517, 3) := by decide +kernel
theorem d_Model_row_72 : decode og_c_Model_row 72 = .ok (.aload_n 0, 1) := by decide +kernel
theorem d_Model_row_73 : decode og_c_Model_row 73 = .ok (.getfield 130, 3) := by decide +kernel
theorem d_Model_row_76 : decode og_c_Model_row 76 = .ok (.sipush 256, 3) := by decide +kernel
theorem d_Model_row_79 : decode og_c_Model_row 79 = .ok (.iload 4, 2) := by decide +kernel
theorem d_Model_row_81 : decode og_c_Model_row 81 = .ok (.imul, 1) := by decide +kernel
theorem d_Model_row_82 : decode og_c_Model_row 82 = .ok (.iload_n 2, 1) := by decide +kernel
theorem d_Model_row_83 : decode og_c_Model_row 83 = .ok (.iadd, 1) := by decide +kernel
theorem d_Model_row_84 : decode og_c_Model_row 84 = .ok (.iaload, 1) := by decide +kernel
theorem d_Model_row_85 : decode og_c_Model_row 85 = .ok (.if_icmp .ne 27, 3) := by decide +kernel
theorem d_Model_row_88 : decode og_c_Model_row 88 = .ok (.aload_n 0, 1) := by decide +kernel
theorem d_Model_row_89 : decode og_c_Model_row 89 = .ok (.iload 4, 2) := by decide +kernel
theorem d_Model_row_91 : decode og_c_Model_row 91 = .ok (.iload_n 2, 1) := by decide +kernel
theorem d_Model_row_92 : decode og_c_Model_row 92 = .ok (.iload_n 3, 1) := by decide +kernel
theorem d_Model_row_93 : decode og_c_Model_row 93 = .ok (.invokevirtual 521, 3) := by decide +kernel
theorem d_Model_row_96 : decode og_c_Model_row 96 = .ok (.aload_n 0, 1) := by decide +kernel
theorem d_Model_row_97 : decode og_c_Model_row 97 = .ok (.getfield 133, 3) := by decide +kernel
theorem d_Model_row_100 : decode og_c_Model_row 100 = .ok (.sipush 256, 3) := by decide +kernel
theorem d_Model_row_103 : decode og_c_Model_row 103 = .ok (.iload 4, 2) := by decide +kernel
theorem d_Model_row_105 : decode og_c_Model_row 105 = .ok (.imul, 1) := by decide +kernel
theorem d_Model_row_106 : decode og_c_Model_row 106 = .ok (.iload_n 2, 1) := by decide +kernel
theorem d_Model_row_107 : decode og_c_Model_row 107 = .ok (.iadd, 1) := by decide +kernel
theorem d_Model_row_108 : decode og_c_Model_row 108 = .ok (.iaload, 1) := by decide +kernel
theorem d_Model_row_109 : decode og_c_Model_row 109 = .ok (.if_icmp .eq 9, 3) := by decide +kernel
theorem d_Model_row_112 : decode og_c_Model_row 112 = .ok (.iinc 3 1, 3) := by decide +kernel
theorem d_Model_row_115 : decode og_c_Model_row 115 = .ok (.goto (-51), 3) := by decide +kernel
theorem d_Model_row_118 : decode og_c_Model_row 118 = .ok (.iload_n 3, 1) := by decide +kernel
theorem d_Model_row_119 : decode og_c_Model_row 119 = .ok (.iconst (-1), 1) := by decide +kernel
theorem d_Model_row_120 : decode og_c_Model_row 120 = .ok (.if_icmp .eq 9, 3) := by decide +kernel
theorem d_Model_row_123 : decode og_c_Model_row 123 = .ok (.iload_n 2, 1) := by decide +kernel
theorem d_Model_row_124 : decode og_c_Model_row 124 = .ok (.iconst 1, 1) := by decide +kernel
theorem d_Model_row_125 : decode og_c_Model_row 125 = .ok (.iload_n 3, 1) := by decide +kernel
theorem d_Model_row_126 : decode og_c_Model_row 126 = .ok (.ishl, 1) := by decide +kernel
theorem d_Model_row_127 : decode og_c_Model_row 127 = .ok (.ior, 1) := by decide +kernel
theorem d_Model_row_128 : decode og_c_Model_row 128 = .ok (.istore_n 2, 1) := by decide +kernel
theorem d_Model_row_129 : decode og_c_Model_row 129 = .ok (.iinc 4 1, 3) := by decide +kernel
theorem d_Model_row_132 : decode og_c_Model_row 132 = .ok (.goto (-78), 3) := by decide +kernel
theorem d_Model_row_135 : decode og_c_Model_row 135 = .ok (.iload_n 3, 1) := by decide +kernel
theorem d_Model_row_136 : decode og_c_Model_row 136 = .ok (.ireturn, 1) := by decide +kernel
def m_Model_row : og_Dn := og_den [17, 0] 5 0 (og_seq (og_if (og_not (og_cb (og_call m_Model_isIn [og_i2l (og_loc 1), og_k 0, og_i2l (og_add (og_k 1) (og_call m_Model_graveMany [og_loc 0]))]))) (og_ret (og_k (-1))) (og_skip)) (og_seq (og_exp (og_call m_Model_laysRows [og_loc 0])) (og_seq (og_if (og_cc og_rlt (og_loc 1) (og_k 2)) (og_ret (og_ei (og_cc og_req (og_loc 1) (og_k 0)) (og_ald 1792 (og_fix (fun _ => 1039) (og_loc 0)) (og_k 0)) (og_ald 1792 (og_fix (fun _ => 1040) (og_loc 0)) (og_k 0)))) (og_skip)) (og_seq (og_set 2 (og_k 0)) (og_seq (og_set 3 (og_k (-1))) (og_cut (og_seq (og_set 4 (og_k 0)) (og_while (og_cc og_rle (og_loc 4) (og_sub (og_loc 1) (og_k 2))) (og_seq (og_set 3 (og_k (-1))) (og_cut (og_while (og_or (og_cc og_rne (og_call m_Model_mostBy [og_loc 0, og_loc 4, og_loc 2, og_loc 3]) (og_ald 1792 (og_fix (fun _ => 1039) (og_loc 0)) (og_add (og_mul (og_k 256) (og_loc 4)) (og_loc 2)))) (og_cc og_rne (og_call m_Model_harmBy [og_loc 0, og_loc 4, og_loc 2, og_loc 3]) (og_ald 1792 (og_fix (fun _ => 1040) (og_loc 0)) (og_add (og_mul (og_k 256) (og_loc 4)) (og_loc 2))))) (og_inc 3 1) (og_skip)) (og_if (og_cc og_rne (og_loc 3) (og_k (-1))) (og_set 2 (og_bop og_oor (og_loc 2) (og_bop og_oshl (og_k 1) (og_loc 3)))) (og_skip)))) (og_inc 4 1))) (og_ret (og_loc 3))))))))
set_option maxRecDepth 20000 in
theorem ok_Model_row : og_MOK og_y_Model_row og_c_Model_row 5 0 8 [17, 0] m_Model_row := og_method (b := 0) (lt' := []) (by decide +kernel) (by decide) (by decide) (og_sseq (og_sif (T := 16) (F := 18) (og_cnot (og_cbne (tgt := 18) (og_callSz (og_acons (og_i2l_ (og_iload_n (i := 1) (j := 1) (by rfl) (by rfl) d_Model_row_0) d_Model_row_1) (og_acons (og_lconst (x := 0) d_Model_row_2) (og_acons (og_i2l_ (og_iadd (og_iconst (by decide) d_Model_row_3) (og_callVi (og_acons (og_aload_n (i := 0) (t := 15) (j := 0) (by rfl) (by rfl) d_Model_row_4) (og_anil)) (by decide) ok_Model_graveMany (v_Model_graveMany (by decide)) og_w1649 d_Model_row_5) d_Model_row_8) d_Model_row_9) (og_anil)))) (by decide) ok_Model_isIn (v_Model_isIn (by decide)) og_w1520 d_Model_row_10) d_Model_row_13 (by decide))) (og_sreti (og_iconst (by decide) d_Model_row_16) d_Model_row_17) (og_sskip)) (og_sseq (og_callVv (og_acons (og_aload_n (i := 0) (t := 15) (j := 0) (by rfl) (by rfl) d_Model_row_18) (og_anil)) ok_Model_laysRows (v_Model_laysRows (by decide)) og_w1828 d_Model_row_19) (og_sseq (og_sif (T := 27) (F := 47) (og_ccn og_n_lt (og_ige (tgt := 47) (og_iload_n (i := 1) (j := 1) (by rfl) (by rfl) d_Model_row_22) (og_iconst (by decide) d_Model_row_23) d_Model_row_24 (by decide))) (og_sreti (og_eite (og_ccn og_n_eq (og_zne (tgt := 40) (og_iload_n (i := 1) (j := 1) (by rfl) (by rfl) d_Model_row_27) d_Model_row_28 (by decide))) (og_iald (N := 1792) (og_f_Model_rowMost (og_aload_n (i := 0) (t := 15) (j := 0) (by rfl) (by rfl) d_Model_row_31) og_w1198 d_Model_row_32) (by rfl) (og_iconst (by decide) d_Model_row_35) d_Model_row_36) d_Model_row_37 (by decide) (og_iald (N := 1792) (og_f_Model_rowHarm (og_aload_n (i := 0) (t := 15) (j := 0) (by rfl) (by rfl) d_Model_row_40) og_w1199 d_Model_row_41) (by rfl) (og_iconst (by decide) d_Model_row_44) d_Model_row_45)) d_Model_row_46) (og_sskip)) (og_sseq (og_istore_n (i := 2) (lt' := [(0, 17), (1, 0), (2, 0)]) (og_iconst (by decide) d_Model_row_47) (by rfl) (by decide) (by decide) d_Model_row_48) (og_sseq (og_istore_n (i := 3) (lt' := [(0, 17), (1, 0), (2, 0), (3, 0)]) (og_iconst (by decide) d_Model_row_49) (by rfl) (by decide) (by decide) d_Model_row_50) (og_scut (og_sdrop (lt' := [(0, 17), (1, 0), (2, 0), (3, 0), (4, 0)]) (lt2 := [(0, 17), (1, 0), (2, 0), (3, 0)]) (og_sseq (og_istore (i := 4) (lt' := [(0, 17), (1, 0), (2, 0), (3, 0), (4, 0)]) (og_iconst (by decide) d_Model_row_51) (by decide) (by decide) d_Model_row_52) (og_swhile (T := 62) (F := 135) (cp0 := 129) (og_ccn og_n_le (og_igt (tgt := 135) (og_iload (i := 4) (j := 4) (by rfl) d_Model_row_54) (og_isub (og_iload_n (i := 1) (j := 1) (by rfl) (by rfl) d_Model_row_56) (og_iconst (by decide) d_Model_row_57) d_Model_row_58) d_Model_row_59 (by decide))) (og_sseq (og_istore_n (i := 3) (lt' := [(0, 17), (1, 0), (2, 0), (3, 0), (4, 0)]) (og_iconst (by decide) d_Model_row_62) (by rfl) (by decide) (by decide) d_Model_row_63) (og_scut (og_swhile (T := 112) (F := 118) (cp0 := 64) (og_cor (og_ine (tgt := 112) (og_callVi (og_acons (og_aload_n (i := 0) (t := 15) (j := 0) (by rfl) (by rfl) d_Model_row_64) (og_acons (og_iload (i := 4) (j := 4) (by rfl) d_Model_row_65) (og_acons (og_iload_n (i := 2) (j := 2) (by rfl) (by rfl) d_Model_row_67) (og_acons (og_iload_n (i := 3) (j := 3) (by rfl) (by rfl) d_Model_row_68) (og_anil))))) (by decide) ok_Model_mostBy (v_Model_mostBy (by decide)) og_w1836 d_Model_row_69) (og_iald (N := 1792) (og_f_Model_rowMost (og_aload_n (i := 0) (t := 15) (j := 0) (by rfl) (by rfl) d_Model_row_72) og_w1198 d_Model_row_73) (by rfl) (og_iadd (og_imul (og_sipush (by decide) d_Model_row_76) (og_iload (i := 4) (j := 4) (by rfl) d_Model_row_79) d_Model_row_81) (og_iload_n (i := 2) (j := 2) (by rfl) (by rfl) d_Model_row_82) d_Model_row_83) d_Model_row_84) d_Model_row_85 (by decide)) (og_ccn og_n_ne (og_ieq (tgt := 118) (og_callVi (og_acons (og_aload_n (i := 0) (t := 15) (j := 0) (by rfl) (by rfl) d_Model_row_88) (og_acons (og_iload (i := 4) (j := 4) (by rfl) d_Model_row_89) (og_acons (og_iload_n (i := 2) (j := 2) (by rfl) (by rfl) d_Model_row_91) (og_acons (og_iload_n (i := 3) (j := 3) (by rfl) (by rfl) d_Model_row_92) (og_anil))))) (by decide) ok_Model_harmBy (v_Model_harmBy (by decide)) og_w1840 d_Model_row_93) (og_iald (N := 1792) (og_f_Model_rowHarm (og_aload_n (i := 0) (t := 15) (j := 0) (by rfl) (by rfl) d_Model_row_96) og_w1199 d_Model_row_97) (by rfl) (og_iadd (og_imul (og_sipush (by decide) d_Model_row_100) (og_iload (i := 4) (j := 4) (by rfl) d_Model_row_103) d_Model_row_105) (og_iload_n (i := 2) (j := 2) (by rfl) (by rfl) d_Model_row_106) d_Model_row_107) d_Model_row_108) d_Model_row_109 (by decide)))) (og_gS (b' := 64) (og_iinc (j := 3) (lt' := [(0, 17), (1, 0), (2, 0), (3, 0), (4, 0)]) (by rfl) (by decide) (by decide) d_Model_row_112) d_Model_row_115 (by decide)) (og_sskip)) (og_sif (T := 123) (F := 129) (og_ccn og_n_ne (og_ieq (tgt := 129) (og_iload_n (i := 3) (j := 3) (by rfl) (by rfl) d_Model_row_118) (og_iconst (by decide) d_Model_row_119) d_Model_row_120 (by decide))) (og_istore_n (i := 2) (lt' := [(0, 17), (1, 0), (2, 0), (3, 0), (4, 0)]) (og_ior (og_iload_n (i := 2) (j := 2) (by rfl) (by rfl) d_Model_row_123) (og_ishl (og_iconst (by decide) d_Model_row_124) (og_iload_n (i := 3) (j := 3) (by rfl) (by rfl) d_Model_row_125) d_Model_row_126) d_Model_row_127) (by rfl) (by decide) (by decide) d_Model_row_128) (og_sskip)))) (og_gS (b' := 54) (og_iinc (j := 4) (lt' := [(0, 17), (1, 0), (2, 0), (3, 0), (4, 0)]) (by rfl) (by decide) (by decide) d_Model_row_129) d_Model_row_132 (by decide)))) (by decide)) (og_sreti (og_iload_n (i := 3) (j := 3) (by rfl) (by rfl) d_Model_row_135) d_Model_row_136))))))) (fun h => by cases h)
abbrev og_c_Model_persuade : ByteArray := prog_14_method_76_code
abbrev og_y_Model_persuade : MethodName := ⟨"OpenGravesModel", "persuade", "(I)I"⟩
theorem v_Model_persuade {own : String} {idx dep : Nat} (h : 7 + 1 ≤ dep) : og_sV own idx og_y_Model_persuade og_c_Model_persuade 5 0 7 dep 13 1 := ⟨⟨12, og_sl_Model, og_T_Model, 102, rfl, by decide, rfl⟩, og_w1845, og_w1846, og_w17, og_w1847, ⟨by decide +kernel, by decide +kernel, by decide +kernel⟩, h, by decide⟩
theorem d_Model_persuade_0 : decode og_c_Model_persuade 0 = .ok (.aload_n 0, 1) := by decide +kernel
theorem d_Model_persuade_1 : decode og_c_Model_persuade 1 = .ok (.iload_n 1, 1) := by decide +kernel
theorem d_Model_persuade_2 : decode og_c_Model_persuade 2 = .ok (.invokevirtual 500, 3) := by decide +kernel
theorem d_Model_persuade_5 : decode og_c_Model_persuade 5 = .ok (.ifCond .ne 5, 3) := by decide +kernel
theorem d_Model_persuade_8 : decode og_c_Model_persuade 8 = .ok (.iconst (-1), 1) := by decide +kernel
theorem d_Model_persuade_9 : decode og_c_Model_persuade 9 = .ok (.ireturn, 1) := by decide +kernel
theorem d_Model_persuade_10 : decode og_c_Model_persuade 10 = .ok (.aload_n 0, 1) := by decide +kernel
theorem d_Model_persuade_11 : decode og_c_Model_persuade 11 = .ok (.iload_n 1, 1) := by decide +kernel
theorem d_Model_persuade_12 : decode og_c_Model_persuade 12 = .ok (.invokevirtual 426, 3) := by decide +kernel
theorem d_Model_persuade_15 : decode og_c_Model_persuade 15 = .ok (.istore_n 2, 1) := by decide +kernel
theorem d_Model_persuade_16 : decode og_c_Model_persuade 16 = .ok (.iconst (-1), 1) := by decide +kernel
theorem d_Model_persuade_17 : decode og_c_Model_persuade 17 = .ok (.istore_n 3, 1) := by decide +kernel
theorem d_Model_persuade_18 : decode og_c_Model_persuade 18 = .ok (.iload_n 2, 1) := by decide +kernel
theorem d_Model_persuade_19 : decode og_c_Model_persuade 19 = .ok (.istore 4, 2) := by decide +kernel
theorem d_Model_persuade_21 : decode og_c_Model_persuade 21 = .ok (.iload 4, 2) := by decide +kernel
theorem d_Model_persuade_23 : decode og_c_Model_persuade 23 = .ok (.bipush 9, 2) := by decide +kernel
theorem d_Model_persuade_25 : decode og_c_Model_persuade 25 = .ok (.if_icmp .gt 38, 3) := by decide +kernel
theorem d_Model_persuade_28 : decode og_c_Model_persuade 28 = .ok (.iload_n 3, 1) := by decide +kernel
theorem d_Model_persuade_29 : decode og_c_Model_persuade 29 = .ok (.iconst (-1), 1) := by decide +kernel
theorem d_Model_persuade_30 : decode og_c_Model_persuade 30 = .ok (.if_icmp .ne 33, 3) := by decide +kernel
theorem d_Model_persuade_33 : decode og_c_Model_persuade 33 = .ok (.aload_n 0, 1) := by decide +kernel
theorem d_Model_persuade_34 : decode og_c_Model_persuade 34 = .ok (.getfield 124, 3) := by decide +kernel
theorem d_Model_persuade_37 : decode og_c_Model_persuade 37 = .ok (.bipush 21, 2) := by decide +kernel
theorem d_Model_persuade_39 : decode og_c_Model_persuade 39 = .ok (.iconst 3, 1) := by decide +kernel
theorem d_Model_persuade_40 : decode og_c_Model_persuade 40 = .ok (.iload_n 1, 1) := by decide +kernel
theorem d_Model_persuade_41 : decode og_c_Model_persuade 41 = .ok (.imul, 1) := by decide +kernel
theorem d_Model_persuade_42 : decode og_c_Model_persuade 42 = .ok (.iadd, 1) := by decide +kernel
theorem d_Model_persuade_43 : decode og_c_Model_persuade 43 = .ok (.iload 4, 2) := by decide +kernel
theorem d_Model_persuade_45 : decode og_c_Model_persuade 45 = .ok (.iastore, 1) := by decide +kernel
theorem d_Model_persuade_46 : decode og_c_Model_persuade 46 = .ok (.aload_n 0, 1) := by decide +kernel
theorem d_Model_persuade_47 : decode og_c_Model_persuade 47 = .ok (.iload_n 1, 1) := by decide +kernel
theorem d_Model_persuade_48 : decode og_c_Model_persuade 48 = .ok (.invokevirtual 442, 3) := by decide +kernel
theorem d_Model_persuade_51 : decode og_c_Model_persuade 51 = .ok (.ifCond .eq 6, 3) := by decide +kernel
theorem d_Model_persuade_54 : decode og_c_Model_persuade 54 = .ok (.iload 4, 2) := by decide +kernel
theorem d_Model_persuade_56 : decode og_c_Model_persuade 56 = .ok (.istore_n 3, 1) := by decide +kernel
theorem d_Model_persuade_57 : decode og_c_Model_persuade 57 = .ok (.iinc 4 1, 3) := by decide +kernel
theorem d_Model_persuade_60 : decode og_c_Model_persuade 60 = .ok (.goto (-39), 3) := by decide +kernel
theorem d_Model_persuade_63 : decode og_c_Model_persuade 63 = .ok (.aload_n 0, 1) := by decide +kernel
theorem d_Model_persuade_64 : decode og_c_Model_persuade 64 = .ok (.getfield 124, 3) := by decide +kernel
theorem d_Model_persuade_67 : decode og_c_Model_persuade 67 = .ok (.bipush 21, 2) := by decide +kernel
theorem d_Model_persuade_69 : decode og_c_Model_persuade 69 = .ok (.iconst 3, 1) := by decide +kernel
theorem d_Model_persuade_70 : decode og_c_Model_persuade 70 = .ok (.iload_n 1, 1) := by decide +kernel
theorem d_Model_persuade_71 : decode og_c_Model_persuade 71 = .ok (.imul, 1) := by decide +kernel
theorem d_Model_persuade_72 : decode og_c_Model_persuade 72 = .ok (.iadd, 1) := by decide +kernel
theorem d_Model_persuade_73 : decode og_c_Model_persuade 73 = .ok (.iload_n 2, 1) := by decide +kernel
theorem d_Model_persuade_74 : decode og_c_Model_persuade 74 = .ok (.iastore, 1) := by decide +kernel
theorem d_Model_persuade_75 : decode og_c_Model_persuade 75 = .ok (.iload_n 3, 1) := by decide +kernel
theorem d_Model_persuade_76 : decode og_c_Model_persuade 76 = .ok (.ireturn, 1) := by decide +kernel
def m_Model_persuade : og_Dn := og_den [17, 0] 5 0 (og_seq (og_if (og_not (og_cb (og_call m_Model_isLiving [og_loc 0, og_loc 1]))) (og_ret (og_k (-1))) (og_skip)) (og_seq (og_set 2 (og_call m_Model_willOf [og_loc 0, og_loc 1])) (og_seq (og_set 3 (og_k (-1))) (og_cut (og_seq (og_set 4 (og_loc 2)) (og_while (og_and (og_cc og_rle (og_loc 4) (og_k 9)) (og_cc og_req (og_loc 3) (og_k (-1)))) (og_seq (og_ast 204 (og_fix (fun _ => 1037) (og_loc 0)) (og_add (og_k 21) (og_mul (og_k 3) (og_loc 1))) (og_loc 4)) (og_if (og_cb (og_call m_Model_doesCome [og_loc 0, og_loc 1])) (og_set 3 (og_loc 4)) (og_skip))) (og_inc 4 1))) (og_seq (og_ast 204 (og_fix (fun _ => 1037) (og_loc 0)) (og_add (og_k 21) (og_mul (og_k 3) (og_loc 1))) (og_loc 2)) (og_ret (og_loc 3)))))))
set_option maxRecDepth 20000 in
theorem ok_Model_persuade : og_MOK og_y_Model_persuade og_c_Model_persuade 5 0 7 [17, 0] m_Model_persuade := og_method (b := 0) (lt' := []) (by decide +kernel) (by decide) (by decide) (og_sseq (og_sif (T := 8) (F := 10) (og_cnot (og_cbne (tgt := 10) (og_callVz (og_acons (og_aload_n (i := 0) (t := 15) (j := 0) (by rfl) (by rfl) d_Model_persuade_0) (og_acons (og_iload_n (i := 1) (j := 1) (by rfl) (by rfl) d_Model_persuade_1) (og_anil))) (by decide) ok_Model_isLiving (v_Model_isLiving (by decide)) og_w1755 d_Model_persuade_2) d_Model_persuade_5 (by decide))) (og_sreti (og_iconst (by decide) d_Model_persuade_8) d_Model_persuade_9) (og_sskip)) (og_sseq (og_istore_n (i := 2) (lt' := [(0, 17), (1, 0), (2, 0)]) (og_callVi (og_acons (og_aload_n (i := 0) (t := 15) (j := 0) (by rfl) (by rfl) d_Model_persuade_10) (og_acons (og_iload_n (i := 1) (j := 1) (by rfl) (by rfl) d_Model_persuade_11) (og_anil))) (by decide) ok_Model_willOf (v_Model_willOf (by decide)) og_w1698 d_Model_persuade_12) (by rfl) (by decide) (by decide) d_Model_persuade_15) (og_sseq (og_istore_n (i := 3) (lt' := [(0, 17), (1, 0), (2, 0), (3, 0)]) (og_iconst (by decide) d_Model_persuade_16) (by rfl) (by decide) (by decide) d_Model_persuade_17) (og_scut (og_sdrop (lt' := [(0, 17), (1, 0), (2, 0), (3, 0), (4, 0)]) (lt2 := [(0, 17), (1, 0), (2, 0), (3, 0)]) (og_sseq (og_istore (i := 4) (lt' := [(0, 17), (1, 0), (2, 0), (3, 0), (4, 0)]) (og_iload_n (i := 2) (j := 2) (by rfl) (by rfl) d_Model_persuade_18) (by decide) (by decide) d_Model_persuade_19) (og_swhile (T := 33) (F := 63) (cp0 := 57) (og_cand (og_ccn og_n_le (og_igt (tgt := 63) (og_iload (i := 4) (j := 4) (by rfl) d_Model_persuade_21) (og_bipush (by decide) d_Model_persuade_23) d_Model_persuade_25 (by decide))) (og_ccn og_n_eq (og_ine (tgt := 63) (og_iload_n (i := 3) (j := 3) (by rfl) (by rfl) d_Model_persuade_28) (og_iconst (by decide) d_Model_persuade_29) d_Model_persuade_30 (by decide)))) (og_sseq (og_iastore (N := 204) (og_f_Model_now (og_aload_n (i := 0) (t := 15) (j := 0) (by rfl) (by rfl) d_Model_persuade_33) og_w1192 d_Model_persuade_34) (by rfl) (og_iadd (og_bipush (by decide) d_Model_persuade_37) (og_imul (og_iconst (by decide) d_Model_persuade_39) (og_iload_n (i := 1) (j := 1) (by rfl) (by rfl) d_Model_persuade_40) d_Model_persuade_41) d_Model_persuade_42) (og_iload (i := 4) (j := 4) (by rfl) d_Model_persuade_43) d_Model_persuade_45) (og_sif (T := 54) (F := 57) (og_cbeq (tgt := 57) (og_callVz (og_acons (og_aload_n (i := 0) (t := 15) (j := 0) (by rfl) (by rfl) d_Model_persuade_46) (og_acons (og_iload_n (i := 1) (j := 1) (by rfl) (by rfl) d_Model_persuade_47) (og_anil))) (by decide) ok_Model_doesCome (v_Model_doesCome (by decide)) og_w1796 d_Model_persuade_48) d_Model_persuade_51 (by decide)) (og_istore_n (i := 3) (lt' := [(0, 17), (1, 0), (2, 0), (3, 0), (4, 0)]) (og_iload (i := 4) (j := 4) (by rfl) d_Model_persuade_54) (by rfl) (by decide) (by decide) d_Model_persuade_56) (og_sskip))) (og_gS (b' := 21) (og_iinc (j := 4) (lt' := [(0, 17), (1, 0), (2, 0), (3, 0), (4, 0)]) (by rfl) (by decide) (by decide) d_Model_persuade_57) d_Model_persuade_60 (by decide)))) (by decide)) (og_sseq (og_iastore (N := 204) (og_f_Model_now (og_aload_n (i := 0) (t := 15) (j := 0) (by rfl) (by rfl) d_Model_persuade_63) og_w1192 d_Model_persuade_64) (by rfl) (og_iadd (og_bipush (by decide) d_Model_persuade_67) (og_imul (og_iconst (by decide) d_Model_persuade_69) (og_iload_n (i := 1) (j := 1) (by rfl) (by rfl) d_Model_persuade_70) d_Model_persuade_71) d_Model_persuade_72) (og_iload_n (i := 2) (j := 2) (by rfl) (by rfl) d_Model_persuade_73) d_Model_persuade_74) (og_sreti (og_iload_n (i := 3) (j := 3) (by rfl) (by rfl) d_Model_persuade_75) d_Model_persuade_76)))))) (fun h => by cases h)
abbrev og_c_Model_goesOn : ByteArray := prog_14_method_77_code
abbrev og_y_Model_goesOn : MethodName := ⟨"OpenGravesModel", "goesOn", "(I)Z"⟩
theorem v_Model_goesOn {own : String} {idx dep : Nat} (h : 2 + 1 ≤ dep) : og_sV own idx og_y_Model_goesOn og_c_Model_goesOn 4 3 2 dep 13 1 := ⟨⟨12, og_sl_Model, og_T_Model, 102, rfl, by decide, rfl⟩, og_w1864, (og_memP (⟨"OpenGravesModel", "goesOn", "(I)Z"⟩, 102) (List.mem_of_getElem? (i := 128) (by decide +kernel))), og_w17, og_w1865, ⟨by decide +kernel, by decide +kernel, by decide +kernel⟩, h, by decide⟩
theorem d_Model_goesOn_0 : decode og_c_Model_goesOn 0 = .ok (.iload_n 1, 1) := by decide +kernel
theorem d_Model_goesOn_1 : decode og_c_Model_goesOn 1 = .ok (.iconst 1, 1) := by decide +kernel
theorem d_Model_goesOn_2 : decode og_c_Model_goesOn 2 = .ok (.isub, 1) := by decide +kernel
theorem d_Model_goesOn_3 : decode og_c_Model_goesOn 3 = .ok (.istore_n 2, 1) := by decide +kernel
theorem d_Model_goesOn_4 : decode og_c_Model_goesOn 4 = .ok (.iload_n 2, 1) := by decide +kernel
theorem d_Model_goesOn_5 : decode og_c_Model_goesOn 5 = .ok (.ifCond .lt 24, 3) := by decide +kernel
theorem d_Model_goesOn_8 : decode og_c_Model_goesOn 8 = .ok (.aload_n 0, 1) := by decide +kernel
theorem d_Model_goesOn_9 : decode og_c_Model_goesOn 9 = .ok (.getfield 139, 3) := by decide +kernel
theorem d_Model_goesOn_12 : decode og_c_Model_goesOn 12 = .ok (.iload_n 2, 1) := by decide +kernel
theorem d_Model_goesOn_13 : decode og_c_Model_goesOn 13 = .ok (.iaload, 1) := by decide +kernel
theorem d_Model_goesOn_14 : decode og_c_Model_goesOn 14 = .ok (.aload_n 0, 1) := by decide +kernel
theorem d_Model_goesOn_15 : decode og_c_Model_goesOn 15 = .ok (.invokevirtual 378, 3) := by decide +kernel
theorem d_Model_goesOn_18 : decode og_c_Model_goesOn 18 = .ok (.iconst 1, 1) := by decide +kernel
theorem d_Model_goesOn_19 : decode og_c_Model_goesOn 19 = .ok (.isub, 1) := by decide +kernel
theorem d_Model_goesOn_20 : decode og_c_Model_goesOn 20 = .ok (.if_icmp .ne 9, 3) := by decide +kernel
theorem d_Model_goesOn_23 : decode og_c_Model_goesOn 23 = .ok (.iinc 2 (-1), 3) := by decide +kernel
theorem d_Model_goesOn_26 : decode og_c_Model_goesOn 26 = .ok (.goto (-22), 3) := by decide +kernel
theorem d_Model_goesOn_29 : decode og_c_Model_goesOn 29 = .ok (.iload_n 2, 1) := by decide +kernel
theorem d_Model_goesOn_30 : decode og_c_Model_goesOn 30 = .ok (.ifCond .ge 5, 3) := by decide +kernel
theorem d_Model_goesOn_33 : decode og_c_Model_goesOn 33 = .ok (.iconst 0, 1) := by decide +kernel
theorem d_Model_goesOn_34 : decode og_c_Model_goesOn 34 = .ok (.ireturn, 1) := by decide +kernel
theorem d_Model_goesOn_35 : decode og_c_Model_goesOn 35 = .ok (.aload_n 0, 1) := by decide +kernel
theorem d_Model_goesOn_36 : decode og_c_Model_goesOn 36 = .ok (.getfield 139, 3) := by decide +kernel
theorem d_Model_goesOn_39 : decode og_c_Model_goesOn 39 = .ok (.iload_n 2, 1) := by decide +kernel
theorem d_Model_goesOn_40 : decode og_c_Model_goesOn 40 = .ok (.dup2, 1) := by decide +kernel
theorem d_Model_goesOn_41 : decode og_c_Model_goesOn 41 = .ok (.iaload, 1) := by decide +kernel
theorem d_Model_goesOn_42 : decode og_c_Model_goesOn 42 = .ok (.iconst 1, 1) := by decide +kernel
theorem d_Model_goesOn_43 : decode og_c_Model_goesOn 43 = .ok (.iadd, 1) := by decide +kernel
theorem d_Model_goesOn_44 : decode og_c_Model_goesOn 44 = .ok (.iastore, 1) := by decide +kernel
theorem d_Model_goesOn_45 : decode og_c_Model_goesOn 45 = .ok (.iload_n 2, 1) := by decide +kernel
theorem d_Model_goesOn_46 : decode og_c_Model_goesOn 46 = .ok (.iconst 1, 1) := by decide +kernel
theorem d_Model_goesOn_47 : decode og_c_Model_goesOn 47 = .ok (.iadd, 1) := by decide +kernel
theorem d_Model_goesOn_48 : decode og_c_Model_goesOn 48 = .ok (.istore_n 3, 1) := by decide +kernel
theorem d_Model_goesOn_49 : decode og_c_Model_goesOn 49 = .ok (.iload_n 3, 1) := by decide +kernel
theorem d_Model_goesOn_50 : decode og_c_Model_goesOn 50 = .ok (.iload_n 1, 1) := by decide +kernel
theorem d_Model_goesOn_51 : decode og_c_Model_goesOn 51 = .ok (.if_icmp .ge 21, 3) := by decide +kernel
theorem d_Model_goesOn_54 : decode og_c_Model_goesOn 54 = .ok (.aload_n 0, 1) := by decide +kernel
theorem d_Model_goesOn_55 : decode og_c_Model_goesOn 55 = .ok (.getfield 139, 3) := by decide +kernel
theorem d_Model_goesOn_58 : decode og_c_Model_goesOn 58 = .ok (.iload_n 3, 1) := by decide +kernel
theorem d_Model_goesOn_59 : decode og_c_Model_goesOn 59 = .ok (.aload_n 0, 1) := by decide +kernel
theorem d_Model_goesOn_60 : decode og_c_Model_goesOn 60 = .ok (.getfield 139, 3) := by decide +kernel
theorem d_Model_goesOn_63 : decode og_c_Model_goesOn 63 = .ok (.iload_n 2, 1) := by decide +kernel
theorem d_Model_goesOn_64 : decode og_c_Model_goesOn 64 = .ok (.iaload, 1) := by decide +kernel
theorem d_Model_goesOn_65 : decode og_c_Model_goesOn 65 = .ok (.iastore, 1) := by decide +kernel
theorem d_Model_goesOn_66 : decode og_c_Model_goesOn 66 = .ok (.iinc 3 1, 3) := by decide +kernel
theorem d_Model_goesOn_69 : decode og_c_Model_goesOn 69 = .ok (.goto (-20), 3) := by decide +kernel
theorem d_Model_goesOn_72 : decode og_c_Model_goesOn 72 = .ok (.iconst 1, 1) := by decide +kernel
theorem d_Model_goesOn_73 : decode og_c_Model_goesOn 73 = .ok (.ireturn, 1) := by decide +kernel
def m_Model_goesOn : og_Dn := og_den [17, 0] 4 3 (og_seq (og_set 2 (og_sub (og_loc 1) (og_k 1))) (og_cut (og_while (og_and (og_cc og_rge (og_loc 2) (og_k 0)) (og_cc og_req (og_ald 4 (og_fix (fun _ => 1042) (og_loc 0)) (og_loc 2)) (og_sub (og_call m_Model_graveMany [og_loc 0]) (og_k 1)))) (og_inc 2 (-1)) (og_skip)) (og_seq (og_if (og_cc og_rlt (og_loc 2) (og_k 0)) (og_retz (og_k 0)) (og_skip)) (og_seq (og_aop og_padd 4 (og_fix (fun _ => 1042) (og_loc 0)) (og_loc 2) (og_k 1)) (og_cut (og_seq (og_set 3 (og_add (og_loc 2) (og_k 1))) (og_while (og_cc og_rlt (og_loc 3) (og_loc 1)) (og_ast 4 (og_fix (fun _ => 1042) (og_loc 0)) (og_loc 3) (og_ald 4 (og_fix (fun _ => 1042) (og_loc 0)) (og_loc 2))) (og_inc 3 1))) (og_retz (og_k 1)))))))
set_option maxRecDepth 20000 in
theorem ok_Model_goesOn : og_MOK og_y_Model_goesOn og_c_Model_goesOn 4 3 2 [17, 0] m_Model_goesOn := og_method (b := 0) (lt' := []) (by decide +kernel) (by decide) (by decide) (og_sseq (og_istore_n (i := 2) (lt' := [(0, 17), (1, 0), (2, 0)]) (og_isub (og_iload_n (i := 1) (j := 1) (by rfl) (by rfl) d_Model_goesOn_0) (og_iconst (by decide) d_Model_goesOn_1) d_Model_goesOn_2) (by rfl) (by decide) (by decide) d_Model_goesOn_3) (og_scut (og_swhile (T := 23) (F := 29) (cp0 := 4) (og_cand (og_ccn og_n_ge (og_zlt (tgt := 29) (og_iload_n (i := 2) (j := 2) (by rfl) (by rfl) d_Model_goesOn_4) d_Model_goesOn_5 (by decide))) (og_ccn og_n_eq (og_ine (tgt := 29) (og_iald (N := 4) (og_f_Model_digs (og_aload_n (i := 0) (t := 15) (j := 0) (by rfl) (by rfl) d_Model_goesOn_8) og_w1201 d_Model_goesOn_9) (by rfl) (og_iload_n (i := 2) (j := 2) (by rfl) (by rfl) d_Model_goesOn_12) d_Model_goesOn_13) (og_isub (og_callVi (og_acons (og_aload_n (i := 0) (t := 15) (j := 0) (by rfl) (by rfl) d_Model_goesOn_14) (og_anil)) (by decide) ok_Model_graveMany (v_Model_graveMany (by decide)) og_w1649 d_Model_goesOn_15) (og_iconst (by decide) d_Model_goesOn_18) d_Model_goesOn_19) d_Model_goesOn_20 (by decide)))) (og_gS (b' := 4) (og_iinc (j := 2) (lt' := [(0, 17), (1, 0), (2, 0)]) (by rfl) (by decide) (by decide) d_Model_goesOn_23) d_Model_goesOn_26 (by decide)) (og_sskip)) (og_sseq (og_sif (T := 33) (F := 35) (og_ccn og_n_lt (og_zge (tgt := 35) (og_iload_n (i := 2) (j := 2) (by rfl) (by rfl) d_Model_goesOn_29) d_Model_goesOn_30 (by decide))) (og_sretz (og_iconst (by decide) d_Model_goesOn_33) d_Model_goesOn_34) (og_sskip)) (og_sseq (og_aadd (N := 4) (og_f_Model_digs (og_aload_n (i := 0) (t := 15) (j := 0) (by rfl) (by rfl) d_Model_goesOn_35) og_w1201 d_Model_goesOn_36) (by rfl) (og_iload_n (i := 2) (j := 2) (by rfl) (by rfl) d_Model_goesOn_39) d_Model_goesOn_40 d_Model_goesOn_41 (og_iconst (by decide) d_Model_goesOn_42) d_Model_goesOn_43 d_Model_goesOn_44) (og_scut (og_sdrop (lt' := [(0, 17), (1, 0), (2, 0), (3, 0)]) (lt2 := [(0, 17), (1, 0), (2, 0)]) (og_sseq (og_istore_n (i := 3) (lt' := [(0, 17), (1, 0), (2, 0), (3, 0)]) (og_iadd (og_iload_n (i := 2) (j := 2) (by rfl) (by rfl) d_Model_goesOn_45) (og_iconst (by decide) d_Model_goesOn_46) d_Model_goesOn_47) (by rfl) (by decide) (by decide) d_Model_goesOn_48) (og_swhile (T := 54) (F := 72) (cp0 := 66) (og_ccn og_n_lt (og_ige (tgt := 72) (og_iload_n (i := 3) (j := 3) (by rfl) (by rfl) d_Model_goesOn_49) (og_iload_n (i := 1) (j := 1) (by rfl) (by rfl) d_Model_goesOn_50) d_Model_goesOn_51 (by decide))) (og_iastore (N := 4) (og_f_Model_digs (og_aload_n (i := 0) (t := 15) (j := 0) (by rfl) (by rfl) d_Model_goesOn_54) og_w1201 d_Model_goesOn_55) (by rfl) (og_iload_n (i := 3) (j := 3) (by rfl) (by rfl) d_Model_goesOn_58) (og_iald (N := 4) (og_f_Model_digs (og_aload_n (i := 0) (t := 15) (j := 0) (by rfl) (by rfl) d_Model_goesOn_59) og_w1201 d_Model_goesOn_60) (by rfl) (og_iload_n (i := 2) (j := 2) (by rfl) (by rfl) d_Model_goesOn_63) d_Model_goesOn_64) d_Model_goesOn_65) (og_gS (b' := 49) (og_iinc (j := 3) (lt' := [(0, 17), (1, 0), (2, 0), (3, 0)]) (by rfl) (by decide) (by decide) d_Model_goesOn_66) d_Model_goesOn_69 (by decide)))) (by decide)) (og_sretz (og_iconst (by decide) d_Model_goesOn_72) d_Model_goesOn_73)))))) (fun h => by cases h)
abbrev og_c_Model_canDig : ByteArray := prog_14_method_78_code
abbrev og_y_Model_canDig : MethodName := ⟨"OpenGravesModel", "canDig", "(I)Z"⟩
theorem v_Model_canDig {own : String} {idx dep : Nat} (h : 2 + 1 ≤ dep) : og_sV own idx og_y_Model_canDig og_c_Model_canDig 4 3 2 dep 13 1 := ⟨⟨12, og_sl_Model, og_T_Model, 102, rfl, by decide, rfl⟩, og_w1860, (og_memP (⟨"OpenGravesModel", "canDig", "(I)Z"⟩, 102) (List.mem_of_getElem? (i := 127) (by decide +kernel))), og_w17, og_w1861, ⟨by decide +kernel, by decide +kernel, by decide +kernel⟩, h, by decide⟩
theorem d_Model_canDig_0 : decode og_c_Model_canDig 0 = .ok (.iconst 1, 1) := by decide +kernel
theorem d_Model_canDig_1 : decode og_c_Model_canDig 1 = .ok (.istore_n 2, 1) := by decide +kernel
theorem d_Model_canDig_2 : decode og_c_Model_canDig 2 = .ok (.iconst 0, 1) := by decide +kernel
theorem d_Model_canDig_3 : decode og_c_Model_canDig 3 = .ok (.istore_n 3, 1) := by decide +kernel
theorem d_Model_canDig_4 : decode og_c_Model_canDig 4 = .ok (.iload_n 3, 1) := by decide +kernel
theorem d_Model_canDig_5 : decode og_c_Model_canDig 5 = .ok (.iload_n 1, 1) := by decide +kernel
theorem d_Model_canDig_6 : decode og_c_Model_canDig 6 = .ok (.if_icmp .ge 71, 3) := by decide +kernel
theorem d_Model_canDig_9 : decode og_c_Model_canDig 9 = .ok (.iload_n 2, 1) := by decide +kernel
theorem d_Model_canDig_10 : decode og_c_Model_canDig 10 = .ok (.ifCond .eq 67, 3) := by decide +kernel
theorem d_Model_canDig_13 : decode og_c_Model_canDig 13 = .ok (.aload_n 0, 1) := by decide +kernel
theorem d_Model_canDig_14 : decode og_c_Model_canDig 14 = .ok (.aload_n 0, 1) := by decide +kernel
theorem d_Model_canDig_15 : decode og_c_Model_canDig 15 = .ok (.getfield 139, 3) := by decide +kernel
theorem d_Model_canDig_18 : decode og_c_Model_canDig 18 = .ok (.iload_n 3, 1) := by decide +kernel
theorem d_Model_canDig_19 : decode og_c_Model_canDig 19 = .ok (.iaload, 1) := by decide +kernel
theorem d_Model_canDig_20 : decode og_c_Model_canDig 20 = .ok (.invokevirtual 387, 3) := by decide +kernel
theorem d_Model_canDig_23 : decode og_c_Model_canDig 23 = .ok (.iconst (-1), 1) := by decide +kernel
theorem d_Model_canDig_24 : decode og_c_Model_canDig 24 = .ok (.if_icmp .ne 22, 3) := by decide +kernel
theorem d_Model_canDig_27 : decode og_c_Model_canDig 27 = .ok (.aload_n 0, 1) := by decide +kernel
theorem d_Model_canDig_28 : decode og_c_Model_canDig 28 = .ok (.aload_n 0, 1) := by decide +kernel
theorem d_Model_canDig_29 : decode og_c_Model_canDig 29 = .ok (.getfield 139, 3) := by decide +kernel
theorem d_Model_canDig_32 : decode og_c_Model_canDig 32 = .ok (.iload_n 3, 1) := by decide +kernel
theorem d_Model_canDig_33 : decode og_c_Model_canDig 33 = .ok (.iaload, 1) := by decide +kernel
theorem d_Model_canDig_34 : decode og_c_Model_canDig 34 = .ok (.invokevirtual 384, 3) := by decide +kernel
theorem d_Model_canDig_37 : decode og_c_Model_canDig 37 = .ok (.bipush 9, 2) := by decide +kernel
theorem d_Model_canDig_39 : decode og_c_Model_canDig 39 = .ok (.if_icmp .ge 7, 3) := by decide +kernel
theorem d_Model_canDig_42 : decode og_c_Model_canDig 42 = .ok (.iconst 1, 1) := by decide +kernel
theorem d_Model_canDig_43 : decode og_c_Model_canDig 43 = .ok (.goto 4, 3) := by decide +kernel
theorem d_Model_canDig_46 : decode og_c_Model_canDig 46 = .ok (.iconst 0, 1) := by decide +kernel
theorem d_Model_canDig_47 : decode og_c_Model_canDig 47 = .ok (.istore_n 2, 1) := by decide +kernel
theorem d_Model_canDig_48 : decode og_c_Model_canDig 48 = .ok (.iload_n 2, 1) := by decide +kernel
theorem d_Model_canDig_49 : decode og_c_Model_canDig 49 = .ok (.ifCond .eq 22, 3) := by decide +kernel
theorem d_Model_canDig_52 : decode og_c_Model_canDig 52 = .ok (.aload_n 0, 1) := by decide +kernel
theorem d_Model_canDig_53 : decode og_c_Model_canDig 53 = .ok (.getfield 124, 3) := by decide +kernel
theorem d_Model_canDig_56 : decode og_c_Model_canDig 56 = .ok (.iconst 1, 1) := by decide +kernel
theorem d_Model_canDig_57 : decode og_c_Model_canDig 57 = .ok (.iconst 3, 1) := by decide +kernel
theorem d_Model_canDig_58 : decode og_c_Model_canDig 58 = .ok (.aload_n 0, 1) := by decide +kernel
theorem d_Model_canDig_59 : decode og_c_Model_canDig 59 = .ok (.getfield 139, 3) := by decide +kernel
theorem d_Model_canDig_62 : decode og_c_Model_canDig 62 = .ok (.iload_n 3, 1) := by decide +kernel
theorem d_Model_canDig_63 : decode og_c_Model_canDig 63 = .ok (.iaload, 1) := by decide +kernel
theorem d_Model_canDig_64 : decode og_c_Model_canDig 64 = .ok (.imul, 1) := by decide +kernel
theorem d_Model_canDig_65 : decode og_c_Model_canDig 65 = .ok (.iadd, 1) := by decide +kernel
theorem d_Model_canDig_66 : decode og_c_Model_canDig 66 = .ok (.dup2, 1) := by decide +kernel
theorem d_Model_canDig_67 : decode og_c_Model_canDig 67 = .ok (.iaload, 1) := by decide +kernel
theorem d_Model_canDig_68 : decode og_c_Model_canDig 68 = .ok (.iconst 1, 1) := by decide +kernel
theorem d_Model_canDig_69 : decode og_c_Model_canDig 69 = .ok (.iadd, 1) := by decide +kernel
theorem d_Model_canDig_70 : decode og_c_Model_canDig 70 = .ok (.iastore, 1) := by decide +kernel
theorem d_Model_canDig_71 : decode og_c_Model_canDig 71 = .ok (.iinc 3 1, 3) := by decide +kernel
theorem d_Model_canDig_74 : decode og_c_Model_canDig 74 = .ok (.goto (-70), 3) := by decide +kernel
theorem d_Model_canDig_77 : decode og_c_Model_canDig 77 = .ok (.iload_n 2, 1) := by decide +kernel
theorem d_Model_canDig_78 : decode og_c_Model_canDig 78 = .ok (.ireturn, 1) := by decide +kernel
def m_Model_canDig : og_Dn := og_den [17, 0] 4 3 (og_seq (og_set 2 (og_k 1)) (og_cut (og_seq (og_set 3 (og_k 0)) (og_while (og_and (og_cc og_rlt (og_loc 3) (og_loc 1)) (og_cb (og_loc 2))) (og_seq (og_set 2 (og_ec (og_and (og_cc og_req (og_call m_Model_inGrave [og_loc 0, og_ald 4 (og_fix (fun _ => 1042) (og_loc 0)) (og_loc 3)]) (og_k (-1))) (og_cc og_rlt (og_call m_Model_deepOf [og_loc 0, og_ald 4 (og_fix (fun _ => 1042) (og_loc 0)) (og_loc 3)]) (og_k 9))))) (og_if (og_cb (og_loc 2)) (og_aop og_padd 204 (og_fix (fun _ => 1037) (og_loc 0)) (og_add (og_k 1) (og_mul (og_k 3) (og_ald 4 (og_fix (fun _ => 1042) (og_loc 0)) (og_loc 3)))) (og_k 1)) (og_skip))) (og_inc 3 1))) (og_retz (og_loc 2))))
set_option maxRecDepth 20000 in
theorem ok_Model_canDig : og_MOK og_y_Model_canDig og_c_Model_canDig 4 3 2 [17, 0] m_Model_canDig := og_method (b := 0) (lt' := []) (by decide +kernel) (by decide) (by decide) (og_sseq (og_istore_n (i := 2) (lt' := [(0, 17), (1, 0), (2, 0)]) (og_iconst (by decide) d_Model_canDig_0) (by rfl) (by decide) (by decide) d_Model_canDig_1) (og_scut (og_sdrop (lt' := [(0, 17), (1, 0), (2, 0), (3, 0)]) (lt2 := [(0, 17), (1, 0), (2, 0)]) (og_sseq (og_istore_n (i := 3) (lt' := [(0, 17), (1, 0), (2, 0), (3, 0)]) (og_iconst (by decide) d_Model_canDig_2) (by rfl) (by decide) (by decide) d_Model_canDig_3) (og_swhile (T := 13) (F := 77) (cp0 := 71) (og_cand (og_ccn og_n_lt (og_ige (tgt := 77) (og_iload_n (i := 3) (j := 3) (by rfl) (by rfl) d_Model_canDig_4) (og_iload_n (i := 1) (j := 1) (by rfl) (by rfl) d_Model_canDig_5) d_Model_canDig_6 (by decide))) (og_cbeq (tgt := 77) (og_iload_n (i := 2) (j := 2) (by rfl) (by rfl) d_Model_canDig_9) d_Model_canDig_10 (by decide))) (og_sseq (og_istore_n (i := 2) (lt' := [(0, 17), (1, 0), (2, 0), (3, 0)]) (og_econd (b := 0) (og_cand (og_ccn og_n_eq (og_ine (tgt := 46) (og_callVi (og_acons (og_aload_n (i := 0) (t := 15) (j := 0) (by rfl) (by rfl) d_Model_canDig_13) (og_acons (og_iald (N := 4) (og_f_Model_digs (og_aload_n (i := 0) (t := 15) (j := 0) (by rfl) (by rfl) d_Model_canDig_14) og_w1201 d_Model_canDig_15) (by rfl) (og_iload_n (i := 3) (j := 3) (by rfl) (by rfl) d_Model_canDig_18) d_Model_canDig_19) (og_anil))) (by decide) ok_Model_inGrave (v_Model_inGrave (by decide)) og_w1661 d_Model_canDig_20) (og_iconst (by decide) d_Model_canDig_23) d_Model_canDig_24 (by decide))) (og_ccn og_n_lt (og_ige (tgt := 46) (og_callVi (og_acons (og_aload_n (i := 0) (t := 15) (j := 0) (by rfl) (by rfl) d_Model_canDig_27) (og_acons (og_iald (N := 4) (og_f_Model_digs (og_aload_n (i := 0) (t := 15) (j := 0) (by rfl) (by rfl) d_Model_canDig_28) og_w1201 d_Model_canDig_29) (by rfl) (og_iload_n (i := 3) (j := 3) (by rfl) (by rfl) d_Model_canDig_32) d_Model_canDig_33) (og_anil))) (by decide) ok_Model_deepOf (v_Model_deepOf (by decide)) og_w1657 d_Model_canDig_34) (og_bipush (by decide) d_Model_canDig_37) d_Model_canDig_39 (by decide)))) d_Model_canDig_42 d_Model_canDig_43 (by decide) d_Model_canDig_46 (by rfl)) (by rfl) (by decide) (by decide) d_Model_canDig_47) (og_sif (T := 52) (F := 71) (og_cbeq (tgt := 71) (og_iload_n (i := 2) (j := 2) (by rfl) (by rfl) d_Model_canDig_48) d_Model_canDig_49 (by decide)) (og_aadd (N := 204) (og_f_Model_now (og_aload_n (i := 0) (t := 15) (j := 0) (by rfl) (by rfl) d_Model_canDig_52) og_w1192 d_Model_canDig_53) (by rfl) (og_iadd (og_iconst (by decide) d_Model_canDig_56) (og_imul (og_iconst (by decide) d_Model_canDig_57) (og_iald (N := 4) (og_f_Model_digs (og_aload_n (i := 0) (t := 15) (j := 0) (by rfl) (by rfl) d_Model_canDig_58) og_w1201 d_Model_canDig_59) (by rfl) (og_iload_n (i := 3) (j := 3) (by rfl) (by rfl) d_Model_canDig_62) d_Model_canDig_63) d_Model_canDig_64) d_Model_canDig_65) d_Model_canDig_66 d_Model_canDig_67 (og_iconst (by decide) d_Model_canDig_68) d_Model_canDig_69 d_Model_canDig_70) (og_sskip))) (og_gS (b' := 4) (og_iinc (j := 3) (lt' := [(0, 17), (1, 0), (2, 0), (3, 0)]) (by rfl) (by decide) (by decide) d_Model_canDig_71) d_Model_canDig_74 (by decide)))) (by decide)) (og_sretz (og_iload_n (i := 2) (j := 2) (by rfl) (by rfl) d_Model_canDig_77) d_Model_canDig_78))) (fun h => by cases h)
abbrev og_c_Model_enemyMost : ByteArray := prog_14_method_79_code
abbrev og_y_Model_enemyMost : MethodName := ⟨"OpenGravesModel", "enemyMost", "(I)I"⟩
theorem v_Model_enemyMost {own : String} {idx dep : Nat} (h : 10 + 1 ≤ dep) : og_sV own idx og_y_Model_enemyMost og_c_Model_enemyMost 5 0 10 dep 13 1 := ⟨⟨12, og_sl_Model, og_T_Model, 102, rfl, by decide, rfl⟩, og_w1856, (og_memP (⟨"OpenGravesModel", "enemyMost", "(I)I"⟩, 102) (List.mem_of_getElem? (i := 126) (by decide +kernel))), og_w17, og_w1857, ⟨by decide +kernel, by decide +kernel, by decide +kernel⟩, h, by decide⟩
theorem d_Model_enemyMost_0 : decode og_c_Model_enemyMost 0 = .ok (.iconst (-1), 1) := by decide +kernel
theorem d_Model_enemyMost_1 : decode og_c_Model_enemyMost 1 = .ok (.istore_n 2, 1) := by decide +kernel
theorem d_Model_enemyMost_2 : decode og_c_Model_enemyMost 2 = .ok (.iconst 0, 1) := by decide +kernel
theorem d_Model_enemyMost_3 : decode og_c_Model_enemyMost 3 = .ok (.istore_n 3, 1) := by decide +kernel
theorem d_Model_enemyMost_4 : decode og_c_Model_enemyMost 4 = .ok (.iload_n 3, 1) := by decide +kernel
theorem d_Model_enemyMost_5 : decode og_c_Model_enemyMost 5 = .ok (.iload_n 1, 1) := by decide +kernel
theorem d_Model_enemyMost_6 : decode og_c_Model_enemyMost 6 = .ok (.if_icmp .ge 16, 3) := by decide +kernel
theorem d_Model_enemyMost_9 : decode og_c_Model_enemyMost 9 = .ok (.aload_n 0, 1) := by decide +kernel
theorem d_Model_enemyMost_10 : decode og_c_Model_enemyMost 10 = .ok (.getfield 139, 3) := by decide +kernel
theorem d_Model_enemyMost_13 : decode og_c_Model_enemyMost 13 = .ok (.iload_n 3, 1) := by decide +kernel
theorem d_Model_enemyMost_14 : decode og_c_Model_enemyMost 14 = .ok (.iconst 0, 1) := by decide +kernel
theorem d_Model_enemyMost_15 : decode og_c_Model_enemyMost 15 = .ok (.iastore, 1) := by decide +kernel
theorem d_Model_enemyMost_16 : decode og_c_Model_enemyMost 16 = .ok (.iinc 3 1, 3) := by decide +kernel
theorem d_Model_enemyMost_19 : decode og_c_Model_enemyMost 19 = .ok (.goto (-15), 3) := by decide +kernel
theorem d_Model_enemyMost_22 : decode og_c_Model_enemyMost 22 = .ok (.aload_n 0, 1) := by decide +kernel
theorem d_Model_enemyMost_23 : decode og_c_Model_enemyMost 23 = .ok (.invokevirtual 378, 3) := by decide +kernel
theorem d_Model_enemyMost_26 : decode og_c_Model_enemyMost 26 = .ok (.ifCond .le 7, 3) := by decide +kernel
theorem d_Model_enemyMost_29 : decode og_c_Model_enemyMost 29 = .ok (.iconst 1, 1) := by decide +kernel
theorem d_Model_enemyMost_30 : decode og_c_Model_enemyMost 30 = .ok (.goto 4, 3) := by decide +kernel
theorem d_Model_enemyMost_33 : decode og_c_Model_enemyMost 33 = .ok (.iconst 0, 1) := by decide +kernel
theorem d_Model_enemyMost_34 : decode og_c_Model_enemyMost 34 = .ok (.istore_n 3, 1) := by decide +kernel
theorem d_Model_enemyMost_35 : decode og_c_Model_enemyMost 35 = .ok (.iload_n 3, 1) := by decide +kernel
theorem d_Model_enemyMost_36 : decode og_c_Model_enemyMost 36 = .ok (.ifCond .eq 72, 3) := by decide +kernel
theorem d_Model_enemyMost_39 : decode og_c_Model_enemyMost 39 = .ok (.aload_n 0, 1) := by decide +kernel
theorem d_Model_enemyMost_40 : decode og_c_Model_enemyMost 40 = .ok (.iload_n 1, 1) := by decide +kernel
theorem d_Model_enemyMost_41 : decode og_c_Model_enemyMost 41 = .ok (.invokevirtual 530, 3) := by decide +kernel
theorem d_Model_enemyMost_44 : decode og_c_Model_enemyMost 44 = .ok (.ifCond .eq 51, 3) := by decide +kernel
theorem d_Model_enemyMost_47 : decode og_c_Model_enemyMost 47 = .ok (.aload_n 0, 1) := by decide +kernel
theorem d_Model_enemyMost_48 : decode og_c_Model_enemyMost 48 = .ok (.bipush 12, 2) := by decide +kernel
theorem d_Model_enemyMost_50 : decode og_c_Model_enemyMost 50 = .ok (.invokevirtual 511, 3) := by decide +kernel
theorem d_Model_enemyMost_53 : decode og_c_Model_enemyMost 53 = .ok (.aload_n 0, 1) := by decide +kernel
theorem d_Model_enemyMost_54 : decode og_c_Model_enemyMost 54 = .ok (.getfield 465, 3) := by decide +kernel
theorem d_Model_enemyMost_57 : decode og_c_Model_enemyMost 57 = .ok (.iload_n 2, 1) := by decide +kernel
theorem d_Model_enemyMost_58 : decode og_c_Model_enemyMost 58 = .ok (.if_icmp .le 37, 3) := by decide +kernel
theorem d_Model_enemyMost_61 : decode og_c_Model_enemyMost 61 = .ok (.aload_n 0, 1) := by decide +kernel
theorem d_Model_enemyMost_62 : decode og_c_Model_enemyMost 62 = .ok (.getfield 465, 3) := by decide +kernel
theorem d_Model_enemyMost_65 : decode og_c_Model_enemyMost 65 = .ok (.istore_n 2, 1) := by decide +kernel
theorem d_Model_enemyMost_66 : decode og_c_Model_enemyMost 66 = .ok (.iconst 0, 1) := by decide +kernel
theorem d_Model_enemyMost_67 : decode og_c_Model_enemyMost 67 = .ok (.istore 4, 2) := by decide +kernel
theorem d_Model_enemyMost_69 : decode og_c_Model_enemyMost 69 = .ok (.iload 4, 2) := by decide +kernel
theorem d_Model_enemyMost_71 : decode og_c_Model_enemyMost 71 = .ok (.iload_n 1, 1) := by decide +kernel
theorem d_Model_enemyMost_72 : decode og_c_Model_enemyMost 72 = .ok (.if_icmp .ge 23, 3) := by decide +kernel
theorem d_Model_enemyMost_75 : decode og_c_Model_enemyMost 75 = .ok (.aload_n 0, 1) := by decide +kernel
theorem d_Model_enemyMost_76 : decode og_c_Model_enemyMost 76 = .ok (.getfield 142, 3) := by decide +kernel
theorem d_Model_enemyMost_79 : decode og_c_Model_enemyMost 79 = .ok (.iload 4, 2) := by decide +kernel
theorem d_Model_enemyMost_81 : decode og_c_Model_enemyMost 81 = .ok (.aload_n 0, 1) := by decide +kernel
theorem d_Model_enemyMost_82 : decode og_c_Model_enemyMost 82 = .ok (.getfield 139, 3) := by decide +kernel
theorem d_Model_enemyMost_85 : decode og_c_Model_enemyMost 85 = .ok (.iload 4, 2) := by decide +kernel
theorem d_Model_enemyMost_87 : decode og_c_Model_enemyMost 87 = .ok (.iaload, 1) := by decide +kernel
theorem d_Model_enemyMost_88 : decode og_c_Model_enemyMost 88 = .ok (.iastore, 1) := by decide +kernel
theorem d_Model_enemyMost_89 : decode og_c_Model_enemyMost 89 = .ok (.iinc 4 1, 3) := by decide +kernel
theorem d_Model_enemyMost_92 : decode og_c_Model_enemyMost 92 = .ok (.goto (-23), 3) := by decide +kernel
theorem d_Model_enemyMost_95 : decode og_c_Model_enemyMost 95 = .ok (.aload_n 0, 1) := by decide +kernel
theorem d_Model_enemyMost_96 : decode og_c_Model_enemyMost 96 = .ok (.invokevirtual 471, 3) := by decide +kernel
theorem d_Model_enemyMost_99 : decode og_c_Model_enemyMost 99 = .ok (.aload_n 0, 1) := by decide +kernel
theorem d_Model_enemyMost_100 : decode og_c_Model_enemyMost 100 = .ok (.iload_n 1, 1) := by decide +kernel
theorem d_Model_enemyMost_101 : decode og_c_Model_enemyMost 101 = .ok (.invokevirtual 533, 3) := by decide +kernel
theorem d_Model_enemyMost_104 : decode og_c_Model_enemyMost 104 = .ok (.istore_n 3, 1) := by decide +kernel
theorem d_Model_enemyMost_105 : decode og_c_Model_enemyMost 105 = .ok (.goto (-70), 3) := by decide +kernel
theorem d_Model_enemyMost_108 : decode og_c_Model_enemyMost 108 = .ok (.iload_n 2, 1) := by decide +kernel
theorem d_Model_enemyMost_109 : decode og_c_Model_enemyMost 109 = .ok (.ireturn, 1) := by decide +kernel
def m_Model_enemyMost : og_Dn := og_den [17, 0] 5 0 (og_seq (og_set 2 (og_k (-1))) (og_cut (og_seq (og_set 3 (og_k 0)) (og_while (og_cc og_rlt (og_loc 3) (og_loc 1)) (og_ast 4 (og_fix (fun _ => 1042) (og_loc 0)) (og_loc 3) (og_k 0)) (og_inc 3 1))) (og_seq (og_set 3 (og_ec (og_cc og_rgt (og_call m_Model_graveMany [og_loc 0]) (og_k 0)))) (og_cut (og_while (og_cb (og_loc 3)) (og_cut (og_if (og_cb (og_call m_Model_canDig [og_loc 0, og_loc 1])) (og_seq (og_exp (og_call m_Model_monthsGo [og_loc 0, og_k 12])) (og_if (og_cc og_rgt (og_get 54 (og_loc 0)) (og_loc 2)) (og_seq (og_set 2 (og_get 54 (og_loc 0))) (og_seq (og_set 4 (og_k 0)) (og_while (og_cc og_rlt (og_loc 4) (og_loc 1)) (og_ast 4 (og_fix (fun _ => 1043) (og_loc 0)) (og_loc 4) (og_ald 4 (og_fix (fun _ => 1042) (og_loc 0)) (og_loc 4))) (og_inc 4 1)))) (og_skip))) (og_skip)) (og_seq (og_exp (og_call m_Model_triesAnew [og_loc 0])) (og_set 3 (og_call m_Model_goesOn [og_loc 0, og_loc 1])))) (og_skip)) (og_ret (og_loc 2))))))
set_option maxRecDepth 20000 in
theorem ok_Model_enemyMost : og_MOK og_y_Model_enemyMost og_c_Model_enemyMost 5 0 10 [17, 0] m_Model_enemyMost := og_method (b := 0) (lt' := []) (by decide +kernel) (by decide) (by decide) (og_sseq (og_istore_n (i := 2) (lt' := [(0, 17), (1, 0), (2, 0)]) (og_iconst (by decide) d_Model_enemyMost_0) (by rfl) (by decide) (by decide) d_Model_enemyMost_1) (og_scut (og_sdrop (lt' := [(0, 17), (1, 0), (2, 0), (3, 0)]) (lt2 := [(0, 17), (1, 0), (2, 0)]) (og_sseq (og_istore_n (i := 3) (lt' := [(0, 17), (1, 0), (2, 0), (3, 0)]) (og_iconst (by decide) d_Model_enemyMost_2) (by rfl) (by decide) (by decide) d_Model_enemyMost_3) (og_swhile (T := 9) (F := 22) (cp0 := 16) (og_ccn og_n_lt (og_ige (tgt := 22) (og_iload_n (i := 3) (j := 3) (by rfl) (by rfl) d_Model_enemyMost_4) (og_iload_n (i := 1) (j := 1) (by rfl) (by rfl) d_Model_enemyMost_5) d_Model_enemyMost_6 (by decide))) (og_iastore (N := 4) (og_f_Model_digs (og_aload_n (i := 0) (t := 15) (j := 0) (by rfl) (by rfl) d_Model_enemyMost_9) og_w1201 d_Model_enemyMost_10) (by rfl) (og_iload_n (i := 3) (j := 3) (by rfl) (by rfl) d_Model_enemyMost_13) (og_iconst (by decide) d_Model_enemyMost_14) d_Model_enemyMost_15) (og_gS (b' := 4) (og_iinc (j := 3) (lt' := [(0, 17), (1, 0), (2, 0), (3, 0)]) (by rfl) (by decide) (by decide) d_Model_enemyMost_16) d_Model_enemyMost_19 (by decide)))) (by decide)) (og_sseq (og_istore_n (i := 3) (lt' := [(0, 17), (1, 0), (2, 0), (3, 0)]) (og_econd (b := 0) (og_ccn og_n_gt (og_zle (tgt := 33) (og_callVi (og_acons (og_aload_n (i := 0) (t := 15) (j := 0) (by rfl) (by rfl) d_Model_enemyMost_22) (og_anil)) (by decide) ok_Model_graveMany (v_Model_graveMany (by decide)) og_w1649 d_Model_enemyMost_23) d_Model_enemyMost_26 (by decide))) d_Model_enemyMost_29 d_Model_enemyMost_30 (by decide) d_Model_enemyMost_33 (by rfl)) (by rfl) (by decide) (by decide) d_Model_enemyMost_34) (og_scut (og_swhile (T := 39) (F := 108) (cp0 := 35) (og_cbeq (tgt := 108) (og_iload_n (i := 3) (j := 3) (by rfl) (by rfl) d_Model_enemyMost_35) d_Model_enemyMost_36 (by decide)) (og_scut (og_sif (T := 47) (F := 95) (og_cbeq (tgt := 95) (og_callVz (og_acons (og_aload_n (i := 0) (t := 15) (j := 0) (by rfl) (by rfl) d_Model_enemyMost_39) (og_acons (og_iload_n (i := 1) (j := 1) (by rfl) (by rfl) d_Model_enemyMost_40) (og_anil))) (by decide) ok_Model_canDig (v_Model_canDig (by decide)) og_w1858 d_Model_enemyMost_41) d_Model_enemyMost_44 (by decide)) (og_sseq (og_callVv (og_acons (og_aload_n (i := 0) (t := 15) (j := 0) (by rfl) (by rfl) d_Model_enemyMost_47) (og_acons (og_bipush (by decide) d_Model_enemyMost_48) (og_anil))) ok_Model_monthsGo (v_Model_monthsGo (by decide)) og_w1784 d_Model_enemyMost_50) (og_sif (T := 61) (F := 95) (og_ccn og_n_gt (og_ile (tgt := 95) (og_f_Model_takenMany (og_aload_n (i := 0) (t := 15) (j := 0) (by rfl) (by rfl) d_Model_enemyMost_53) og_w1197 d_Model_enemyMost_54) (og_iload_n (i := 2) (j := 2) (by rfl) (by rfl) d_Model_enemyMost_57) d_Model_enemyMost_58 (by decide))) (og_sseq (og_istore_n (i := 2) (lt' := [(0, 17), (1, 0), (2, 0), (3, 0)]) (og_f_Model_takenMany (og_aload_n (i := 0) (t := 15) (j := 0) (by rfl) (by rfl) d_Model_enemyMost_61) og_w1197 d_Model_enemyMost_62) (by rfl) (by decide) (by decide) d_Model_enemyMost_65) (og_sdrop (lt' := [(0, 17), (1, 0), (2, 0), (3, 0), (4, 0)]) (lt2 := [(0, 17), (1, 0), (2, 0), (3, 0)]) (og_sseq (og_istore (i := 4) (lt' := [(0, 17), (1, 0), (2, 0), (3, 0), (4, 0)]) (og_iconst (by decide) d_Model_enemyMost_66) (by decide) (by decide) d_Model_enemyMost_67) (og_swhile (T := 75) (F := 95) (cp0 := 89) (og_ccn og_n_lt (og_ige (tgt := 95) (og_iload (i := 4) (j := 4) (by rfl) d_Model_enemyMost_69) (og_iload_n (i := 1) (j := 1) (by rfl) (by rfl) d_Model_enemyMost_71) d_Model_enemyMost_72 (by decide))) (og_iastore (N := 4) (og_f_Model_bestDigs (og_aload_n (i := 0) (t := 15) (j := 0) (by rfl) (by rfl) d_Model_enemyMost_75) og_w1202 d_Model_enemyMost_76) (by rfl) (og_iload (i := 4) (j := 4) (by rfl) d_Model_enemyMost_79) (og_iald (N := 4) (og_f_Model_digs (og_aload_n (i := 0) (t := 15) (j := 0) (by rfl) (by rfl) d_Model_enemyMost_81) og_w1201 d_Model_enemyMost_82) (by rfl) (og_iload (i := 4) (j := 4) (by rfl) d_Model_enemyMost_85) d_Model_enemyMost_87) d_Model_enemyMost_88) (og_gS (b' := 69) (og_iinc (j := 4) (lt' := [(0, 17), (1, 0), (2, 0), (3, 0), (4, 0)]) (by rfl) (by decide) (by decide) d_Model_enemyMost_89) d_Model_enemyMost_92 (by decide)))) (by decide))) (og_sskip))) (og_sskip)) (og_sseq (og_callVv (og_acons (og_aload_n (i := 0) (t := 15) (j := 0) (by rfl) (by rfl) d_Model_enemyMost_95) (og_anil)) ok_Model_triesAnew (v_Model_triesAnew (by decide)) og_w1812 d_Model_enemyMost_96) (og_gS (b' := 35) (og_istore_n (i := 3) (lt' := [(0, 17), (1, 0), (2, 0), (3, 0)]) (og_callVz (og_acons (og_aload_n (i := 0) (t := 15) (j := 0) (by rfl) (by rfl) d_Model_enemyMost_99) (og_acons (og_iload_n (i := 1) (j := 1) (by rfl) (by rfl) d_Model_enemyMost_100) (og_anil))) (by decide) ok_Model_goesOn (v_Model_goesOn (by decide)) og_w1862 d_Model_enemyMost_101) (by rfl) (by decide) (by decide) d_Model_enemyMost_104) d_Model_enemyMost_105 (by decide)))) (og_sskip)) (og_sreti (og_iload_n (i := 2) (j := 2) (by rfl) (by rfl) d_Model_enemyMost_108) d_Model_enemyMost_109))))) (fun h => by cases h)
abbrev og_c_Model_enemy : ByteArray := prog_14_method_80_code
abbrev og_y_Model_enemy : MethodName := ⟨"OpenGravesModel", "enemy", "(II)I"⟩
theorem v_Model_enemy {own : String} {idx dep : Nat} (h : 11 + 1 ≤ dep) : og_sV own idx og_y_Model_enemy og_c_Model_enemy 4 0 11 dep 13 2 := ⟨⟨12, og_sl_Model, og_T_Model, 102, rfl, by decide, rfl⟩, og_w1849, og_w1850, og_w17, og_w1851, ⟨by decide +kernel, by decide +kernel, by decide +kernel⟩, h, by decide⟩
theorem d_Model_enemy_0 : decode og_c_Model_enemy 0 = .ok (.iload_n 1, 1) := by decide +kernel
theorem d_Model_enemy_1 : decode og_c_Model_enemy 1 = .ok (.i2l, 1) := by decide +kernel
theorem d_Model_enemy_2 : decode og_c_Model_enemy 2 = .ok (.lconst 1, 1) := by decide +kernel
theorem d_Model_enemy_3 : decode og_c_Model_enemy 3 = .ok (.ldc2_w 536, 3) := by decide +kernel
theorem d_Model_enemy_6 : decode og_c_Model_enemy 6 = .ok (.invokestatic 285, 3) := by decide +kernel
theorem d_Model_enemy_9 : decode og_c_Model_enemy 9 = .ok (.ifCond .eq 31, 3) := by decide +kernel
theorem d_Model_enemy_12 : decode og_c_Model_enemy 12 = .ok (.iload_n 2, 1) := by decide +kernel
theorem d_Model_enemy_13 : decode og_c_Model_enemy 13 = .ok (.i2l, 1) := by decide +kernel
theorem d_Model_enemy_14 : decode og_c_Model_enemy 14 = .ok (.ldc2_w 538, 3) := by decide +kernel
theorem d_Model_enemy_17 : decode og_c_Model_enemy 17 = .ok (.iload_n 1, 1) := by decide +kernel
theorem d_Model_enemy_18 : decode og_c_Model_enemy 18 = .ok (.iconst 1, 1) := by decide +kernel
theorem d_Model_enemy_19 : decode og_c_Model_enemy 19 = .ok (.isub, 1) := by decide +kernel
theorem d_Model_enemy_20 : decode og_c_Model_enemy 20 = .ok (.i2l, 1) := by decide +kernel
theorem d_Model_enemy_21 : decode og_c_Model_enemy 21 = .ok (.invokestatic 285, 3) := by decide +kernel
theorem d_Model_enemy_24 : decode og_c_Model_enemy 24 = .ok (.ifCond .eq 16, 3) := by decide +kernel
theorem d_Model_enemy_27 : decode og_c_Model_enemy 27 = .ok (.aload_n 0, 1) := by decide +kernel
theorem d_Model_enemy_28 : decode og_c_Model_enemy 28 = .ok (.bipush 12, 2) := by decide +kernel
theorem d_Model_enemy_30 : decode og_c_Model_enemy 30 = .ok (.bipush 12, 2) := by decide +kernel
theorem d_Model_enemy_32 : decode og_c_Model_enemy 32 = .ok (.bipush 12, 2) := by decide +kernel
theorem d_Model_enemy_34 : decode og_c_Model_enemy 34 = .ok (.invokevirtual 505, 3) := by decide +kernel
theorem d_Model_enemy_37 : decode og_c_Model_enemy 37 = .ok (.ifCond .ne 5, 3) := by decide +kernel
theorem d_Model_enemy_40 : decode og_c_Model_enemy 40 = .ok (.iconst (-1), 1) := by decide +kernel
theorem d_Model_enemy_41 : decode og_c_Model_enemy 41 = .ok (.ireturn, 1) := by decide +kernel
theorem d_Model_enemy_42 : decode og_c_Model_enemy 42 = .ok (.aload_n 0, 1) := by decide +kernel
theorem d_Model_enemy_43 : decode og_c_Model_enemy 43 = .ok (.invokevirtual 508, 3) := by decide +kernel
theorem d_Model_enemy_46 : decode og_c_Model_enemy 46 = .ok (.aload_n 0, 1) := by decide +kernel
theorem d_Model_enemy_47 : decode og_c_Model_enemy 47 = .ok (.iload_n 1, 1) := by decide +kernel
theorem d_Model_enemy_48 : decode og_c_Model_enemy 48 = .ok (.invokevirtual 540, 3) := by decide +kernel
theorem d_Model_enemy_51 : decode og_c_Model_enemy 51 = .ok (.istore_n 3, 1) := by decide +kernel
theorem d_Model_enemy_52 : decode og_c_Model_enemy 52 = .ok (.aload_n 0, 1) := by decide +kernel
theorem d_Model_enemy_53 : decode og_c_Model_enemy 53 = .ok (.invokevirtual 514, 3) := by decide +kernel
theorem d_Model_enemy_56 : decode og_c_Model_enemy 56 = .ok (.iload_n 2, 1) := by decide +kernel
theorem d_Model_enemy_57 : decode og_c_Model_enemy 57 = .ok (.iconst (-1), 1) := by decide +kernel
theorem d_Model_enemy_58 : decode og_c_Model_enemy 58 = .ok (.if_icmp .eq 8, 3) := by decide +kernel
theorem d_Model_enemy_61 : decode og_c_Model_enemy 61 = .ok (.iload_n 3, 1) := by decide +kernel
theorem d_Model_enemy_62 : decode og_c_Model_enemy 62 = .ok (.iconst (-1), 1) := by decide +kernel
theorem d_Model_enemy_63 : decode og_c_Model_enemy 63 = .ok (.if_icmp .ne 7, 3) := by decide +kernel
theorem d_Model_enemy_66 : decode og_c_Model_enemy 66 = .ok (.iload_n 3, 1) := by decide +kernel
theorem d_Model_enemy_67 : decode og_c_Model_enemy 67 = .ok (.goto 9, 3) := by decide +kernel
theorem d_Model_enemy_70 : decode og_c_Model_enemy 70 = .ok (.aload_n 0, 1) := by decide +kernel
theorem d_Model_enemy_71 : decode og_c_Model_enemy 71 = .ok (.getfield 142, 3) := by decide +kernel
theorem d_Model_enemy_74 : decode og_c_Model_enemy 74 = .ok (.iload_n 2, 1) := by decide +kernel
theorem d_Model_enemy_75 : decode og_c_Model_enemy 75 = .ok (.iaload, 1) := by decide +kernel
theorem d_Model_enemy_76 : decode og_c_Model_enemy 76 = .ok (.ireturn, 1) := by decide +kernel
def m_Model_enemy : og_Dn := og_den [17, 0, 0] 4 0 (og_seq (og_if (og_or (og_or (og_not (og_cb (og_call m_Model_isIn [og_i2l (og_loc 1), og_k 1, og_k 4]))) (og_not (og_cb (og_call m_Model_isIn [og_i2l (og_loc 2), og_k (-1), og_i2l (og_sub (og_loc 1) (og_k 1))])))) (og_not (og_cb (og_call m_Model_isAhead [og_loc 0, og_k 12, og_k 12, og_k 12])))) (og_ret (og_k (-1))) (og_skip)) (og_seq (og_exp (og_call m_Model_putsAside [og_loc 0])) (og_seq (og_set 3 (og_call m_Model_enemyMost [og_loc 0, og_loc 1])) (og_seq (og_exp (og_call m_Model_takesBack [og_loc 0])) (og_ret (og_ei (og_or (og_cc og_req (og_loc 2) (og_k (-1))) (og_cc og_req (og_loc 3) (og_k (-1)))) (og_loc 3) (og_ald 4 (og_fix (fun _ => 1043) (og_loc 0)) (og_loc 2))))))))
set_option maxRecDepth 20000 in
theorem ok_Model_enemy : og_MOK og_y_Model_enemy og_c_Model_enemy 4 0 11 [17, 0, 0] m_Model_enemy := og_method (b := 0) (lt' := []) (by decide +kernel) (by decide) (by decide) (og_sseq (og_sif (T := 40) (F := 42) (og_cor (og_cor (og_cnot (og_cbeq (tgt := 40) (og_callSz (og_acons (og_i2l_ (og_iload_n (i := 1) (j := 1) (by rfl) (by rfl) d_Model_enemy_0) d_Model_enemy_1) (og_acons (og_lconst (x := 1) d_Model_enemy_2) (og_acons (og_ldc2 (x := 4) (by decide) og_w1852 d_Model_enemy_3) (og_anil)))) (by decide) ok_Model_isIn (v_Model_isIn (by decide)) og_w1520 d_Model_enemy_6) d_Model_enemy_9 (by decide))) (og_cnot (og_cbeq (tgt := 40) (og_callSz (og_acons (og_i2l_ (og_iload_n (i := 2) (j := 2) (by rfl) (by rfl) d_Model_enemy_12) d_Model_enemy_13) (og_acons (og_ldc2 (x := (-1)) (by decide) og_w1853 d_Model_enemy_14) (og_acons (og_i2l_ (og_isub (og_iload_n (i := 1) (j := 1) (by rfl) (by rfl) d_Model_enemy_17) (og_iconst (by decide) d_Model_enemy_18) d_Model_enemy_19) d_Model_enemy_20) (og_anil)))) (by decide) ok_Model_isIn (v_Model_isIn (by decide)) og_w1520 d_Model_enemy_21) d_Model_enemy_24 (by decide)))) (og_cnot (og_cbne (tgt := 42) (og_callVz (og_acons (og_aload_n (i := 0) (t := 15) (j := 0) (by rfl) (by rfl) d_Model_enemy_27) (og_acons (og_bipush (by decide) d_Model_enemy_28) (og_acons (og_bipush (by decide) d_Model_enemy_30) (og_acons (og_bipush (by decide) d_Model_enemy_32) (og_anil))))) (by decide) ok_Model_isAhead (v_Model_isAhead (by decide)) og_w1776 d_Model_enemy_34) d_Model_enemy_37 (by decide)))) (og_sreti (og_iconst (by decide) d_Model_enemy_40) d_Model_enemy_41) (og_sskip)) (og_sseq (og_callVv (og_acons (og_aload_n (i := 0) (t := 15) (j := 0) (by rfl) (by rfl) d_Model_enemy_42) (og_anil)) ok_Model_putsAside (v_Model_putsAside (by decide)) og_w1780 d_Model_enemy_43) (og_sseq (og_istore_n (i := 3) (lt' := [(0, 17), (1, 0), (2, 0), (3, 0)]) (og_callVi (og_acons (og_aload_n (i := 0) (t := 15) (j := 0) (by rfl) (by rfl) d_Model_enemy_46) (og_acons (og_iload_n (i := 1) (j := 1) (by rfl) (by rfl) d_Model_enemy_47) (og_anil))) (by decide) ok_Model_enemyMost (v_Model_enemyMost (by decide)) og_w1854 d_Model_enemy_48) (by rfl) (by decide) (by decide) d_Model_enemy_51) (og_sseq (og_callVv (og_acons (og_aload_n (i := 0) (t := 15) (j := 0) (by rfl) (by rfl) d_Model_enemy_52) (og_anil)) ok_Model_takesBack (v_Model_takesBack (by decide)) og_w1808 d_Model_enemy_53) (og_sreti (og_eite (og_cor (og_ieq (tgt := 66) (og_iload_n (i := 2) (j := 2) (by rfl) (by rfl) d_Model_enemy_56) (og_iconst (by decide) d_Model_enemy_57) d_Model_enemy_58 (by decide)) (og_ccn og_n_eq (og_ine (tgt := 70) (og_iload_n (i := 3) (j := 3) (by rfl) (by rfl) d_Model_enemy_61) (og_iconst (by decide) d_Model_enemy_62) d_Model_enemy_63 (by decide)))) (og_iload_n (i := 3) (j := 3) (by rfl) (by rfl) d_Model_enemy_66) d_Model_enemy_67 (by decide) (og_iald (N := 4) (og_f_Model_bestDigs (og_aload_n (i := 0) (t := 15) (j := 0) (by rfl) (by rfl) d_Model_enemy_70) og_w1202 d_Model_enemy_71) (by rfl) (og_iload_n (i := 2) (j := 2) (by rfl) (by rfl) d_Model_enemy_74) d_Model_enemy_75)) d_Model_enemy_76))))) (fun h => by cases h)
abbrev og_c_Model_die : ByteArray := prog_14_method_81_code
abbrev og_y_Model_die : MethodName := ⟨"OpenGravesModel", "die", "(I)V"⟩
theorem v_Model_die {own : String} {idx dep : Nat} (h : 4 + 1 ≤ dep) : og_sV own idx og_y_Model_die og_c_Model_die 3 2 4 dep 13 1 := ⟨⟨12, og_sl_Model, og_T_Model, 102, rfl, by decide, rfl⟩, og_w1877, (og_memP (⟨"OpenGravesModel", "die", "(I)V"⟩, 102) (List.mem_of_getElem? (i := 130) (by decide +kernel))), og_w17, og_w1878, ⟨by decide +kernel, by decide +kernel, by decide +kernel⟩, h, by decide⟩
theorem d_Model_die_0 : decode og_c_Model_die 0 = .ok (.iconst 0, 1) := by decide +kernel
theorem d_Model_die_1 : decode og_c_Model_die 1 = .ok (.istore_n 2, 1) := by decide +kernel
theorem d_Model_die_2 : decode og_c_Model_die 2 = .ok (.iload_n 2, 1) := by decide +kernel
theorem d_Model_die_3 : decode og_c_Model_die 3 = .ok (.aload_n 0, 1) := by decide +kernel
theorem d_Model_die_4 : decode og_c_Model_die 4 = .ok (.invokevirtual 381, 3) := by decide +kernel
theorem d_Model_die_7 : decode og_c_Model_die 7 = .ok (.if_icmp .ge 29, 3) := by decide +kernel
theorem d_Model_die_10 : decode og_c_Model_die 10 = .ok (.iload_n 1, 1) := by decide +kernel
theorem d_Model_die_11 : decode og_c_Model_die 11 = .ok (.iload_n 2, 1) := by decide +kernel
theorem d_Model_die_12 : decode og_c_Model_die 12 = .ok (.ishr, 1) := by decide +kernel
theorem d_Model_die_13 : decode og_c_Model_die 13 = .ok (.iconst 1, 1) := by decide +kernel
theorem d_Model_die_14 : decode og_c_Model_die 14 = .ok (.iand, 1) := by decide +kernel
theorem d_Model_die_15 : decode og_c_Model_die 15 = .ok (.iconst 1, 1) := by decide +kernel
theorem d_Model_die_16 : decode og_c_Model_die 16 = .ok (.if_icmp .ne 14, 3) := by decide +kernel
theorem d_Model_die_19 : decode og_c_Model_die 19 = .ok (.aload_n 0, 1) := by decide +kernel
theorem d_Model_die_20 : decode og_c_Model_die 20 = .ok (.iload_n 2, 1) := by decide +kernel
theorem d_Model_die_21 : decode og_c_Model_die 21 = .ok (.aload_n 0, 1) := by decide +kernel
theorem d_Model_die_22 : decode og_c_Model_die 22 = .ok (.iload_n 2, 1) := by decide +kernel
theorem d_Model_die_23 : decode og_c_Model_die 23 = .ok (.invokevirtual 445, 3) := by decide +kernel
theorem d_Model_die_26 : decode og_c_Model_die 26 = .ok (.iconst 2, 1) := by decide +kernel
theorem d_Model_die_27 : decode og_c_Model_die 27 = .ok (.invokevirtual 448, 3) := by decide +kernel
theorem d_Model_die_30 : decode og_c_Model_die 30 = .ok (.iinc 2 1, 3) := by decide +kernel
theorem d_Model_die_33 : decode og_c_Model_die 33 = .ok (.goto (-31), 3) := by decide +kernel
theorem d_Model_die_36 : decode og_c_Model_die 36 = .ok (.return_, 1) := by decide +kernel
def m_Model_die : og_Dn := og_den [17, 0] 3 2 (og_seq (og_set 2 (og_k 0)) (og_while (og_cc og_rlt (og_loc 2) (og_call m_Model_personMany [og_loc 0])) (og_if (og_cc og_req (og_bop og_oand (og_bop og_oshr (og_loc 1) (og_loc 2)) (og_k 1)) (og_k 1)) (og_exp (og_call m_Model_goesInto [og_loc 0, og_loc 2, og_call m_Model_nextFor [og_loc 0, og_loc 2], og_k 2])) (og_skip)) (og_inc 2 1)))
set_option maxRecDepth 20000 in
theorem ok_Model_die : og_MOK og_y_Model_die og_c_Model_die 3 2 4 [17, 0] m_Model_die := og_method (b := 36) (lt' := [(0, 17), (1, 0)]) (by decide +kernel) (by decide) (by decide) (og_sdrop (lt' := [(0, 17), (1, 0), (2, 0)]) (lt2 := [(0, 17), (1, 0)]) (og_sseq (og_istore_n (i := 2) (lt' := [(0, 17), (1, 0), (2, 0)]) (og_iconst (by decide) d_Model_die_0) (by rfl) (by decide) (by decide) d_Model_die_1) (og_swhile (T := 10) (F := 36) (cp0 := 30) (og_ccn og_n_lt (og_ige (tgt := 36) (og_iload_n (i := 2) (j := 2) (by rfl) (by rfl) d_Model_die_2) (og_callVi (og_acons (og_aload_n (i := 0) (t := 15) (j := 0) (by rfl) (by rfl) d_Model_die_3) (og_anil)) (by decide) ok_Model_personMany (v_Model_personMany (by decide)) og_w1637 d_Model_die_4) d_Model_die_7 (by decide))) (og_sif (T := 19) (F := 30) (og_ccn og_n_eq (og_ine (tgt := 30) (og_iand (og_ishr (og_iload_n (i := 1) (j := 1) (by rfl) (by rfl) d_Model_die_10) (og_iload_n (i := 2) (j := 2) (by rfl) (by rfl) d_Model_die_11) d_Model_die_12) (og_iconst (by decide) d_Model_die_13) d_Model_die_14) (og_iconst (by decide) d_Model_die_15) d_Model_die_16 (by decide))) (og_callVv (og_acons (og_aload_n (i := 0) (t := 15) (j := 0) (by rfl) (by rfl) d_Model_die_19) (og_acons (og_iload_n (i := 2) (j := 2) (by rfl) (by rfl) d_Model_die_20) (og_acons (og_callVi (og_acons (og_aload_n (i := 0) (t := 15) (j := 0) (by rfl) (by rfl) d_Model_die_21) (og_acons (og_iload_n (i := 2) (j := 2) (by rfl) (by rfl) d_Model_die_22) (og_anil))) (by decide) ok_Model_nextFor (v_Model_nextFor (by decide)) og_w1759 d_Model_die_23) (og_acons (og_iconst (by decide) d_Model_die_26) (og_anil))))) ok_Model_goesInto (v_Model_goesInto (by decide)) og_w1800 d_Model_die_27) (og_sskip)) (og_gS (b' := 2) (og_iinc (j := 2) (lt' := [(0, 17), (1, 0), (2, 0)]) (by rfl) (by decide) (by decide) d_Model_die_30) d_Model_die_33 (by decide)))) (by decide)) (fun _ => d_Model_die_36)
abbrev og_c_Model_rowsBy : ByteArray := prog_14_method_82_code
abbrev og_y_Model_rowsBy : MethodName := ⟨"OpenGravesModel", "rowsBy", "(II)J"⟩
theorem v_Model_rowsBy {own : String} {idx dep : Nat} (h : 2 + 1 ≤ dep) : og_sV own idx og_y_Model_rowsBy og_c_Model_rowsBy 6 1 2 dep 13 2 := ⟨⟨12, og_sl_Model, og_T_Model, 102, rfl, by decide, rfl⟩, og_w1873, (og_memP (⟨"OpenGravesModel", "rowsBy", "(II)J"⟩, 102) (List.mem_of_getElem? (i := 129) (by decide +kernel))), og_w17, og_w1874, ⟨by decide +kernel, by decide +kernel, by decide +kernel⟩, h, by decide⟩
theorem d_Model_rowsBy_0 : decode og_c_Model_rowsBy 0 = .ok (.lconst 1, 1) := by decide +kernel
theorem d_Model_rowsBy_1 : decode og_c_Model_rowsBy 1 = .ok (.lstore_n 3, 1) := by decide +kernel
theorem d_Model_rowsBy_2 : decode og_c_Model_rowsBy 2 = .ok (.iconst 0, 1) := by decide +kernel
theorem d_Model_rowsBy_3 : decode og_c_Model_rowsBy 3 = .ok (.istore 5, 2) := by decide +kernel
theorem d_Model_rowsBy_5 : decode og_c_Model_rowsBy 5 = .ok (.iload 5, 2) := by decide +kernel
theorem d_Model_rowsBy_7 : decode og_c_Model_rowsBy 7 = .ok (.aload_n 0, 1) := by decide +kernel
theorem d_Model_rowsBy_8 : decode og_c_Model_rowsBy 8 = .ok (.invokevirtual 381, 3) := by decide +kernel
theorem d_Model_rowsBy_11 : decode og_c_Model_rowsBy 11 = .ok (.if_icmp .ge 54, 3) := by decide +kernel
theorem d_Model_rowsBy_14 : decode og_c_Model_rowsBy 14 = .ok (.iload_n 2, 1) := by decide +kernel
theorem d_Model_rowsBy_15 : decode og_c_Model_rowsBy 15 = .ok (.iload 5, 2) := by decide +kernel
theorem d_Model_rowsBy_17 : decode og_c_Model_rowsBy 17 = .ok (.ishr, 1) := by decide +kernel
theorem d_Model_rowsBy_18 : decode og_c_Model_rowsBy 18 = .ok (.iconst 1, 1) := by decide +kernel
theorem d_Model_rowsBy_19 : decode og_c_Model_rowsBy 19 = .ok (.iand, 1) := by decide +kernel
theorem d_Model_rowsBy_20 : decode og_c_Model_rowsBy 20 = .ok (.iconst 1, 1) := by decide +kernel
theorem d_Model_rowsBy_21 : decode og_c_Model_rowsBy 21 = .ok (.if_icmp .ne 38, 3) := by decide +kernel
theorem d_Model_rowsBy_24 : decode og_c_Model_rowsBy 24 = .ok (.lload_n 3, 1) := by decide +kernel
theorem d_Model_rowsBy_25 : decode og_c_Model_rowsBy 25 = .ok (.iload_n 1, 1) := by decide +kernel
theorem d_Model_rowsBy_26 : decode og_c_Model_rowsBy 26 = .ok (.iload 5, 2) := by decide +kernel
theorem d_Model_rowsBy_28 : decode og_c_Model_rowsBy 28 = .ok (.ishr, 1) := by decide +kernel
theorem d_Model_rowsBy_29 : decode og_c_Model_rowsBy 29 = .ok (.iconst 1, 1) := by decide +kernel
theorem d_Model_rowsBy_30 : decode og_c_Model_rowsBy 30 = .ok (.iand, 1) := by decide +kernel
theorem d_Model_rowsBy_31 : decode og_c_Model_rowsBy 31 = .ok (.iconst 1, 1) := by decide +kernel
theorem d_Model_rowsBy_32 : decode og_c_Model_rowsBy 32 = .ok (.if_icmp .ne 14, 3) := by decide +kernel
theorem d_Model_rowsBy_35 : decode og_c_Model_rowsBy 35 = .ok (.aload_n 0, 1) := by decide +kernel
theorem d_Model_rowsBy_36 : decode og_c_Model_rowsBy 36 = .ok (.getfield 145, 3) := by decide +kernel
theorem d_Model_rowsBy_39 : decode og_c_Model_rowsBy 39 = .ok (.iload 5, 2) := by decide +kernel
theorem d_Model_rowsBy_41 : decode og_c_Model_rowsBy 41 = .ok (.iaload, 1) := by decide +kernel
theorem d_Model_rowsBy_42 : decode og_c_Model_rowsBy 42 = .ok (.i2l, 1) := by decide +kernel
theorem d_Model_rowsBy_43 : decode og_c_Model_rowsBy 43 = .ok (.goto 14, 3) := by decide +kernel
theorem d_Model_rowsBy_46 : decode og_c_Model_rowsBy 46 = .ok (.bipush 100, 2) := by decide +kernel
theorem d_Model_rowsBy_48 : decode og_c_Model_rowsBy 48 = .ok (.aload_n 0, 1) := by decide +kernel
theorem d_Model_rowsBy_49 : decode og_c_Model_rowsBy 49 = .ok (.getfield 145, 3) := by decide +kernel
theorem d_Model_rowsBy_52 : decode og_c_Model_rowsBy 52 = .ok (.iload 5, 2) := by decide +kernel
theorem d_Model_rowsBy_54 : decode og_c_Model_rowsBy 54 = .ok (.iaload, 1) := by decide +kernel
theorem d_Model_rowsBy_55 : decode og_c_Model_rowsBy 55 = .ok (.isub, 1) := by decide +kernel
theorem d_Model_rowsBy_56 : decode og_c_Model_rowsBy 56 = .ok (.i2l, 1) := by decide +kernel
theorem d_Model_rowsBy_57 : decode og_c_Model_rowsBy 57 = .ok (.lmul, 1) := by decide +kernel
theorem d_Model_rowsBy_58 : decode og_c_Model_rowsBy 58 = .ok (.lstore_n 3, 1) := by decide +kernel
theorem d_Model_rowsBy_59 : decode og_c_Model_rowsBy 59 = .ok (.iinc 5 1, 3) := by decide +kernel
theorem d_Model_rowsBy_62 : decode og_c_Model_rowsBy 62 = .ok (.goto (-57), 3) := by decide +kernel
theorem d_Model_rowsBy_65 : decode og_c_Model_rowsBy 65 = .ok (.lload_n 3, 1) := by decide +kernel
theorem d_Model_rowsBy_66 : decode og_c_Model_rowsBy 66 = .ok (.lreturn, 1) := by decide +kernel
def m_Model_rowsBy : og_Dn := og_den [17, 0, 0] 6 1 (og_seq (og_set 3 (og_k 1)) (og_cut (og_seq (og_set 5 (og_k 0)) (og_while (og_cc og_rlt (og_loc 5) (og_call m_Model_personMany [og_loc 0])) (og_if (og_cc og_req (og_bop og_oand (og_bop og_oshr (og_loc 2) (og_loc 5)) (og_k 1)) (og_k 1)) (og_set 3 (og_lmul (og_loc 3) (og_ei (og_cc og_req (og_bop og_oand (og_bop og_oshr (og_loc 1) (og_loc 5)) (og_k 1)) (og_k 1)) (og_i2l (og_ald 8 (og_fix (fun _ => 1044) (og_loc 0)) (og_loc 5))) (og_i2l (og_sub (og_k 100) (og_ald 8 (og_fix (fun _ => 1044) (og_loc 0)) (og_loc 5))))))) (og_skip)) (og_inc 5 1))) (og_ret (og_loc 3))))
set_option maxRecDepth 20000 in
theorem ok_Model_rowsBy : og_MOK og_y_Model_rowsBy og_c_Model_rowsBy 6 1 2 [17, 0, 0] m_Model_rowsBy := og_method (b := 0) (lt' := []) (by decide +kernel) (by decide) (by decide) (og_sseq (og_lstore_n (i := 3) (lt' := [(0, 17), (1, 0), (2, 0), (3, 1)]) (og_lconst (x := 1) d_Model_rowsBy_0) (by rfl) (by decide) (by decide) d_Model_rowsBy_1) (og_scut (og_sdrop (lt' := [(0, 17), (1, 0), (2, 0), (3, 1), (5, 0)]) (lt2 := [(0, 17), (1, 0), (2, 0), (3, 1)]) (og_sseq (og_istore (i := 5) (lt' := [(0, 17), (1, 0), (2, 0), (3, 1), (5, 0)]) (og_iconst (by decide) d_Model_rowsBy_2) (by decide) (by decide) d_Model_rowsBy_3) (og_swhile (T := 14) (F := 65) (cp0 := 59) (og_ccn og_n_lt (og_ige (tgt := 65) (og_iload (i := 5) (j := 4) (by rfl) d_Model_rowsBy_5) (og_callVi (og_acons (og_aload_n (i := 0) (t := 15) (j := 0) (by rfl) (by rfl) d_Model_rowsBy_7) (og_anil)) (by decide) ok_Model_personMany (v_Model_personMany (by decide)) og_w1637 d_Model_rowsBy_8) d_Model_rowsBy_11 (by decide))) (og_sif (T := 24) (F := 59) (og_ccn og_n_eq (og_ine (tgt := 59) (og_iand (og_ishr (og_iload_n (i := 2) (j := 2) (by rfl) (by rfl) d_Model_rowsBy_14) (og_iload (i := 5) (j := 4) (by rfl) d_Model_rowsBy_15) d_Model_rowsBy_17) (og_iconst (by decide) d_Model_rowsBy_18) d_Model_rowsBy_19) (og_iconst (by decide) d_Model_rowsBy_20) d_Model_rowsBy_21 (by decide))) (og_lstore_n (i := 3) (lt' := [(0, 17), (1, 0), (2, 0), (3, 1), (5, 0)]) (og_lmul_ (og_lload_n (i := 3) (j := 3) (by rfl) (by rfl) d_Model_rowsBy_24) (og_eite (og_ccn og_n_eq (og_ine (tgt := 46) (og_iand (og_ishr (og_iload_n (i := 1) (j := 1) (by rfl) (by rfl) d_Model_rowsBy_25) (og_iload (i := 5) (j := 4) (by rfl) d_Model_rowsBy_26) d_Model_rowsBy_28) (og_iconst (by decide) d_Model_rowsBy_29) d_Model_rowsBy_30) (og_iconst (by decide) d_Model_rowsBy_31) d_Model_rowsBy_32 (by decide))) (og_i2l_ (og_iald (N := 8) (og_f_Model_deaths (og_aload_n (i := 0) (t := 15) (j := 0) (by rfl) (by rfl) d_Model_rowsBy_35) og_w1203 d_Model_rowsBy_36) (by rfl) (og_iload (i := 5) (j := 4) (by rfl) d_Model_rowsBy_39) d_Model_rowsBy_41) d_Model_rowsBy_42) d_Model_rowsBy_43 (by decide) (og_i2l_ (og_isub (og_bipush (by decide) d_Model_rowsBy_46) (og_iald (N := 8) (og_f_Model_deaths (og_aload_n (i := 0) (t := 15) (j := 0) (by rfl) (by rfl) d_Model_rowsBy_48) og_w1203 d_Model_rowsBy_49) (by rfl) (og_iload (i := 5) (j := 4) (by rfl) d_Model_rowsBy_52) d_Model_rowsBy_54) d_Model_rowsBy_55) d_Model_rowsBy_56)) d_Model_rowsBy_57) (by rfl) (by decide) (by decide) d_Model_rowsBy_58) (og_sskip)) (og_gS (b' := 5) (og_iinc (j := 4) (lt' := [(0, 17), (1, 0), (2, 0), (3, 1), (5, 0)]) (by rfl) (by decide) (by decide) d_Model_rowsBy_59) d_Model_rowsBy_62 (by decide)))) (by decide)) (og_sretl (og_lload_n (i := 3) (j := 3) (by rfl) (by rfl) d_Model_rowsBy_65) d_Model_rowsBy_66))) (fun h => by cases h)
abbrev og_c_Model_odds : ByteArray := prog_14_method_83_code
abbrev og_y_Model_odds : MethodName := ⟨"OpenGravesModel", "odds", "(I)J"⟩
theorem v_Model_odds {own : String} {idx dep : Nat} (h : 9 + 1 ≤ dep) : og_sV own idx og_y_Model_odds og_c_Model_odds 10 1 9 dep 13 1 := ⟨⟨12, og_sl_Model, og_T_Model, 102, rfl, by decide, rfl⟩, og_w1867, og_w1868, og_w17, og_w1869, ⟨by decide +kernel, by decide +kernel, by decide +kernel⟩, h, by decide⟩
theorem d_Model_odds_0 : decode og_c_Model_odds 0 = .ok (.iload_n 1, 1) := by decide +kernel
theorem d_Model_odds_1 : decode og_c_Model_odds 1 = .ok (.iconst (-1), 1) := by decide +kernel
theorem d_Model_odds_2 : decode og_c_Model_odds 2 = .ok (.if_icmp .eq 12, 3) := by decide +kernel
theorem d_Model_odds_5 : decode og_c_Model_odds 5 = .ok (.aload_n 0, 1) := by decide +kernel
theorem d_Model_odds_6 : decode og_c_Model_odds 6 = .ok (.iload_n 1, 1) := by decide +kernel
theorem d_Model_odds_7 : decode og_c_Model_odds 7 = .ok (.i2l, 1) := by decide +kernel
theorem d_Model_odds_8 : decode og_c_Model_odds 8 = .ok (.invokevirtual 485, 3) := by decide +kernel
theorem d_Model_odds_11 : decode og_c_Model_odds 11 = .ok (.ifCond .eq 13, 3) := by decide +kernel
theorem d_Model_odds_14 : decode og_c_Model_odds 14 = .ok (.aload_n 0, 1) := by decide +kernel
theorem d_Model_odds_15 : decode og_c_Model_odds 15 = .ok (.iconst 1, 1) := by decide +kernel
theorem d_Model_odds_16 : decode og_c_Model_odds 16 = .ok (.iconst 1, 1) := by decide +kernel
theorem d_Model_odds_17 : decode og_c_Model_odds 17 = .ok (.iconst 1, 1) := by decide +kernel
theorem d_Model_odds_18 : decode og_c_Model_odds 18 = .ok (.invokevirtual 505, 3) := by decide +kernel
theorem d_Model_odds_21 : decode og_c_Model_odds 21 = .ok (.ifCond .ne 7, 3) := by decide +kernel
theorem d_Model_odds_24 : decode og_c_Model_odds 24 = .ok (.ldc2_w 492, 3) := by decide +kernel
theorem d_Model_odds_27 : decode og_c_Model_odds 27 = .ok (.lreturn, 1) := by decide +kernel
theorem d_Model_odds_28 : decode og_c_Model_odds 28 = .ok (.iconst 0, 1) := by decide +kernel
theorem d_Model_odds_29 : decode og_c_Model_odds 29 = .ok (.istore_n 2, 1) := by decide +kernel
theorem d_Model_odds_30 : decode og_c_Model_odds 30 = .ok (.lconst 1, 1) := by decide +kernel
theorem d_Model_odds_31 : decode og_c_Model_odds 31 = .ok (.lstore_n 3, 1) := by decide +kernel
theorem d_Model_odds_32 : decode og_c_Model_odds 32 = .ok (.iconst 0, 1) := by decide +kernel
theorem d_Model_odds_33 : decode og_c_Model_odds 33 = .ok (.istore 5, 2) := by decide +kernel
theorem d_Model_odds_35 : decode og_c_Model_odds 35 = .ok (.iload 5, 2) := by decide +kernel
theorem d_Model_odds_37 : decode og_c_Model_odds 37 = .ok (.aload_n 0, 1) := by decide +kernel
theorem d_Model_odds_38 : decode og_c_Model_odds 38 = .ok (.invokevirtual 381, 3) := by decide +kernel
theorem d_Model_odds_41 : decode og_c_Model_odds 41 = .ok (.if_icmp .ge 47, 3) := by decide +kernel
theorem d_Model_odds_44 : decode og_c_Model_odds 44 = .ok (.aload_n 0, 1) := by decide +kernel
theorem d_Model_odds_45 : decode og_c_Model_odds 45 = .ok (.getfield 145, 3) := by decide +kernel
theorem d_Model_odds_48 : decode og_c_Model_odds 48 = .ok (.iload 5, 2) := by decide +kernel
theorem d_Model_odds_50 : decode og_c_Model_odds 50 = .ok (.aload_n 0, 1) := by decide +kernel
theorem d_Model_odds_51 : decode og_c_Model_odds 51 = .ok (.iload 5, 2) := by decide +kernel
theorem d_Model_odds_53 : decode og_c_Model_odds 53 = .ok (.invokevirtual 494, 3) := by decide +kernel
theorem d_Model_odds_56 : decode og_c_Model_odds 56 = .ok (.iastore, 1) := by decide +kernel
theorem d_Model_odds_57 : decode og_c_Model_odds 57 = .ok (.aload_n 0, 1) := by decide +kernel
theorem d_Model_odds_58 : decode og_c_Model_odds 58 = .ok (.iload 5, 2) := by decide +kernel
theorem d_Model_odds_60 : decode og_c_Model_odds 60 = .ok (.invokevirtual 393, 3) := by decide +kernel
theorem d_Model_odds_63 : decode og_c_Model_odds 63 = .ok (.ifCond .ne 6, 3) := by decide +kernel
theorem d_Model_odds_66 : decode og_c_Model_odds 66 = .ok (.goto 16, 3) := by decide +kernel
theorem d_Model_odds_69 : decode og_c_Model_odds 69 = .ok (.iload_n 2, 1) := by decide +kernel
theorem d_Model_odds_70 : decode og_c_Model_odds 70 = .ok (.iconst 1, 1) := by decide +kernel
theorem d_Model_odds_71 : decode og_c_Model_odds 71 = .ok (.iload 5, 2) := by decide +kernel
theorem d_Model_odds_73 : decode og_c_Model_odds 73 = .ok (.ishl, 1) := by decide +kernel
theorem d_Model_odds_74 : decode og_c_Model_odds 74 = .ok (.ior, 1) := by decide +kernel
theorem d_Model_odds_75 : decode og_c_Model_odds 75 = .ok (.istore_n 2, 1) := by decide +kernel
theorem d_Model_odds_76 : decode og_c_Model_odds 76 = .ok (.lload_n 3, 1) := by decide +kernel
theorem d_Model_odds_77 : decode og_c_Model_odds 77 = .ok (.ldc2_w 543, 3) := by decide +kernel
theorem d_Model_odds_80 : decode og_c_Model_odds 80 = .ok (.lmul, 1) := by decide +kernel
theorem d_Model_odds_81 : decode og_c_Model_odds 81 = .ok (.lstore_n 3, 1) := by decide +kernel
theorem d_Model_odds_82 : decode og_c_Model_odds 82 = .ok (.iinc 5 1, 3) := by decide +kernel
theorem d_Model_odds_85 : decode og_c_Model_odds 85 = .ok (.goto (-50), 3) := by decide +kernel
theorem d_Model_odds_88 : decode og_c_Model_odds 88 = .ok (.iload_n 1, 1) := by decide +kernel
theorem d_Model_odds_89 : decode og_c_Model_odds 89 = .ok (.iconst (-1), 1) := by decide +kernel
theorem d_Model_odds_90 : decode og_c_Model_odds 90 = .ok (.if_icmp .ne 5, 3) := by decide +kernel
theorem d_Model_odds_93 : decode og_c_Model_odds 93 = .ok (.lload_n 3, 1) := by decide +kernel
theorem d_Model_odds_94 : decode og_c_Model_odds 94 = .ok (.lreturn, 1) := by decide +kernel
theorem d_Model_odds_95 : decode og_c_Model_odds 95 = .ok (.lconst 0, 1) := by decide +kernel
theorem d_Model_odds_96 : decode og_c_Model_odds 96 = .ok (.lstore 5, 2) := by decide +kernel
theorem d_Model_odds_98 : decode og_c_Model_odds 98 = .ok (.aload_n 0, 1) := by decide +kernel
theorem d_Model_odds_99 : decode og_c_Model_odds 99 = .ok (.invokevirtual 508, 3) := by decide +kernel
theorem d_Model_odds_102 : decode og_c_Model_odds 102 = .ok (.iconst 0, 1) := by decide +kernel
theorem d_Model_odds_103 : decode og_c_Model_odds 103 = .ok (.istore 7, 2) := by decide +kernel
theorem d_Model_odds_105 : decode og_c_Model_odds 105 = .ok (.iload 7, 2) := by decide +kernel
theorem d_Model_odds_107 : decode og_c_Model_odds 107 = .ok (.iconst 1, 1) := by decide +kernel
theorem d_Model_odds_108 : decode og_c_Model_odds 108 = .ok (.aload_n 0, 1) := by decide +kernel
theorem d_Model_odds_109 : decode og_c_Model_odds 109 = .ok (.invokevirtual 381, 3) := by decide +kernel
theorem d_Model_odds_112 : decode og_c_Model_odds 112 = .ok (.ishl, 1) := by decide +kernel
theorem d_Model_odds_113 : decode og_c_Model_odds 113 = .ok (.if_icmp .ge 71, 3) := by decide +kernel
theorem d_Model_odds_116 : decode og_c_Model_odds 116 = .ok (.iload 7, 2) := by decide +kernel
theorem d_Model_odds_118 : decode og_c_Model_odds 118 = .ok (.iload_n 2, 1) := by decide +kernel
theorem d_Model_odds_119 : decode og_c_Model_odds 119 = .ok (.iconst (-1), 1) := by decide +kernel
theorem d_Model_odds_120 : decode og_c_Model_odds 120 = .ok (.ixor, 1) := by decide +kernel
theorem d_Model_odds_121 : decode og_c_Model_odds 121 = .ok (.iand, 1) := by decide +kernel
theorem d_Model_odds_122 : decode og_c_Model_odds 122 = .ok (.ifCond .eq 7, 3) := by decide +kernel
theorem d_Model_odds_125 : decode og_c_Model_odds 125 = .ok (.lconst 0, 1) := by decide +kernel
theorem d_Model_odds_126 : decode og_c_Model_odds 126 = .ok (.goto 10, 3) := by decide +kernel
theorem d_Model_odds_129 : decode og_c_Model_odds 129 = .ok (.aload_n 0, 1) := by decide +kernel
theorem d_Model_odds_130 : decode og_c_Model_odds 130 = .ok (.iload 7, 2) := by decide +kernel
theorem d_Model_odds_132 : decode og_c_Model_odds 132 = .ok (.iload_n 2, 1) := by decide +kernel
theorem d_Model_odds_133 : decode og_c_Model_odds 133 = .ok (.invokevirtual 545, 3) := by decide +kernel
theorem d_Model_odds_136 : decode og_c_Model_odds 136 = .ok (.lstore 8, 2) := by decide +kernel
theorem d_Model_odds_138 : decode og_c_Model_odds 138 = .ok (.lload 8, 2) := by decide +kernel
theorem d_Model_odds_140 : decode og_c_Model_odds 140 = .ok (.lconst 0, 1) := by decide +kernel
theorem d_Model_odds_141 : decode og_c_Model_odds 141 = .ok (.lcmp, 1) := by decide +kernel
theorem d_Model_odds_142 : decode og_c_Model_odds 142 = .ok (.ifCond .ne 6, 3) := by decide +kernel
theorem d_Model_odds_145 : decode og_c_Model_odds 145 = .ok (.goto 33, 3) := by decide +kernel
theorem d_Model_odds_148 : decode og_c_Model_odds 148 = .ok (.aload_n 0, 1) := by decide +kernel
theorem d_Model_odds_149 : decode og_c_Model_odds 149 = .ok (.iload 7, 2) := by decide +kernel
theorem d_Model_odds_151 : decode og_c_Model_odds 151 = .ok (.invokevirtual 548, 3) := by decide +kernel
theorem d_Model_odds_154 : decode og_c_Model_odds 154 = .ok (.aload_n 0, 1) := by decide +kernel
theorem d_Model_odds_155 : decode og_c_Model_odds 155 = .ok (.invokevirtual 468, 3) := by decide +kernel
theorem d_Model_odds_158 : decode og_c_Model_odds 158 = .ok (.aload_n 0, 1) := by decide +kernel
theorem d_Model_odds_159 : decode og_c_Model_odds 159 = .ok (.iload_n 1, 1) := by decide +kernel
theorem d_Model_odds_160 : decode og_c_Model_odds 160 = .ok (.invokevirtual 387, 3) := by decide +kernel
theorem d_Model_odds_163 : decode og_c_Model_odds 163 = .ok (.iconst (-1), 1) := by decide +kernel
theorem d_Model_odds_164 : decode og_c_Model_odds 164 = .ok (.if_icmp .eq 10, 3) := by decide +kernel
theorem d_Model_odds_167 : decode og_c_Model_odds 167 = .ok (.lload 5, 2) := by decide +kernel
theorem d_Model_odds_169 : decode og_c_Model_odds 169 = .ok (.lload 8, 2) := by decide +kernel
theorem d_Model_odds_171 : decode og_c_Model_odds 171 = .ok (.ladd, 1) := by decide +kernel
theorem d_Model_odds_172 : decode og_c_Model_odds 172 = .ok (.lstore 5, 2) := by decide +kernel
theorem d_Model_odds_174 : decode og_c_Model_odds 174 = .ok (.aload_n 0, 1) := by decide +kernel
theorem d_Model_odds_175 : decode og_c_Model_odds 175 = .ok (.invokevirtual 471, 3) := by decide +kernel
theorem d_Model_odds_178 : decode og_c_Model_odds 178 = .ok (.iinc 7 1, 3) := by decide +kernel
theorem d_Model_odds_181 : decode og_c_Model_odds 181 = .ok (.goto (-76), 3) := by decide +kernel
theorem d_Model_odds_184 : decode og_c_Model_odds 184 = .ok (.aload_n 0, 1) := by decide +kernel
theorem d_Model_odds_185 : decode og_c_Model_odds 185 = .ok (.invokevirtual 514, 3) := by decide +kernel
theorem d_Model_odds_188 : decode og_c_Model_odds 188 = .ok (.lload 5, 2) := by decide +kernel
theorem d_Model_odds_190 : decode og_c_Model_odds 190 = .ok (.lreturn, 1) := by decide +kernel
def m_Model_odds : og_Dn := og_den [17, 0] 10 1 (og_seq (og_if (og_or (og_and (og_cc og_rne (og_loc 1) (og_k (-1))) (og_not (og_cb (og_call m_Model_isGrave [og_loc 0, og_i2l (og_loc 1)])))) (og_not (og_cb (og_call m_Model_isAhead [og_loc 0, og_k 1, og_k 1, og_k 1])))) (og_ret (og_k (-1000000000000000))) (og_skip)) (og_seq (og_set 2 (og_k 0)) (og_seq (og_set 3 (og_k 1)) (og_cut (og_seq (og_set 5 (og_k 0)) (og_while (og_cc og_rlt (og_loc 5) (og_call m_Model_personMany [og_loc 0])) (og_seq (og_ast 8 (og_fix (fun _ => 1044) (og_loc 0)) (og_loc 5) (og_call m_Model_diesOf [og_loc 0, og_loc 5])) (og_seq (og_if (og_not (og_cb (og_call m_Model_isAlive [og_loc 0, og_loc 5]))) (og_cont) (og_skip)) (og_seq (og_set 2 (og_bop og_oor (og_loc 2) (og_bop og_oshl (og_k 1) (og_loc 5)))) (og_set 3 (og_lmul (og_loc 3) (og_k 100)))))) (og_inc 5 1))) (og_seq (og_if (og_cc og_req (og_loc 1) (og_k (-1))) (og_ret (og_loc 3)) (og_skip)) (og_seq (og_set 5 (og_k 0)) (og_seq (og_exp (og_call m_Model_putsAside [og_loc 0])) (og_cut (og_seq (og_set 7 (og_k 0)) (og_while (og_cc og_rlt (og_loc 7) (og_bop og_oshl (og_k 1) (og_call m_Model_personMany [og_loc 0]))) (og_seq (og_set 8 (og_ei (og_cc og_rne (og_bop og_oand (og_loc 7) (og_bop og_oxor (og_loc 2) (og_k (-1)))) (og_k 0)) (og_k 0) (og_call m_Model_rowsBy [og_loc 0, og_loc 7, og_loc 2]))) (og_seq (og_if (og_cc og_req (og_loc 8) (og_k 0)) (og_cont) (og_skip)) (og_seq (og_exp (og_call m_Model_die [og_loc 0, og_loc 7])) (og_seq (og_exp (og_call m_Model_monthGoes [og_loc 0])) (og_cut (og_if (og_cc og_rne (og_call m_Model_inGrave [og_loc 0, og_loc 1]) (og_k (-1))) (og_set 5 (og_ladd (og_loc 5) (og_loc 8))) (og_skip)) (og_exp (og_call m_Model_triesAnew [og_loc 0]))))))) (og_inc 7 1))) (og_seq (og_exp (og_call m_Model_takesBack [og_loc 0])) (og_ret (og_loc 5)))))))))))
set_option maxRecDepth 20000 in
theorem ok_Model_odds : og_MOK og_y_Model_odds og_c_Model_odds 10 1 9 [17, 0] m_Model_odds := og_method (b := 0) (lt' := []) (by decide +kernel) (by decide) (by decide) (og_sseq (og_sif (T := 24) (F := 28) (og_cor (og_cand (og_ccn og_n_ne (og_ieq (tgt := 14) (og_iload_n (i := 1) (j := 1) (by rfl) (by rfl) d_Model_odds_0) (og_iconst (by decide) d_Model_odds_1) d_Model_odds_2 (by decide))) (og_cnot (og_cbeq (tgt := 24) (og_callVz (og_acons (og_aload_n (i := 0) (t := 15) (j := 0) (by rfl) (by rfl) d_Model_odds_5) (og_acons (og_i2l_ (og_iload_n (i := 1) (j := 1) (by rfl) (by rfl) d_Model_odds_6) d_Model_odds_7) (og_anil))) (by decide) ok_Model_isGrave (v_Model_isGrave (by decide)) og_w1678 d_Model_odds_8) d_Model_odds_11 (by decide)))) (og_cnot (og_cbne (tgt := 28) (og_callVz (og_acons (og_aload_n (i := 0) (t := 15) (j := 0) (by rfl) (by rfl) d_Model_odds_14) (og_acons (og_iconst (by decide) d_Model_odds_15) (og_acons (og_iconst (by decide) d_Model_odds_16) (og_acons (og_iconst (by decide) d_Model_odds_17) (og_anil))))) (by decide) ok_Model_isAhead (v_Model_isAhead (by decide)) og_w1776 d_Model_odds_18) d_Model_odds_21 (by decide)))) (og_sretl (og_ldc2 (x := (-1000000000000000)) (by decide) og_w1706 d_Model_odds_24) d_Model_odds_27) (og_sskip)) (og_sseq (og_istore_n (i := 2) (lt' := [(0, 17), (1, 0), (2, 0)]) (og_iconst (by decide) d_Model_odds_28) (by rfl) (by decide) (by decide) d_Model_odds_29) (og_sseq (og_lstore_n (i := 3) (lt' := [(0, 17), (1, 0), (2, 0), (3, 1)]) (og_lconst (x := 1) d_Model_odds_30) (by rfl) (by decide) (by decide) d_Model_odds_31) (og_scut (og_sdrop (lt' := [(0, 17), (1, 0), (2, 0), (3, 1), (5, 0)]) (lt2 := [(0, 17), (1, 0), (2, 0), (3, 1)]) (og_sseq (og_istore (i := 5) (lt' := [(0, 17), (1, 0), (2, 0), (3, 1), (5, 0)]) (og_iconst (by decide) d_Model_odds_32) (by decide) (by decide) d_Model_odds_33) (og_swhile (T := 44) (F := 88) (cp0 := 82) (og_ccn og_n_lt (og_ige (tgt := 88) (og_iload (i := 5) (j := 4) (by rfl) d_Model_odds_35) (og_callVi (og_acons (og_aload_n (i := 0) (t := 15) (j := 0) (by rfl) (by rfl) d_Model_odds_37) (og_anil)) (by decide) ok_Model_personMany (v_Model_personMany (by decide)) og_w1637 d_Model_odds_38) d_Model_odds_41 (by decide))) (og_sseq (og_iastore (N := 8) (og_f_Model_deaths (og_aload_n (i := 0) (t := 15) (j := 0) (by rfl) (by rfl) d_Model_odds_44) og_w1203 d_Model_odds_45) (by rfl) (og_iload (i := 5) (j := 4) (by rfl) d_Model_odds_48) (og_callVi (og_acons (og_aload_n (i := 0) (t := 15) (j := 0) (by rfl) (by rfl) d_Model_odds_50) (og_acons (og_iload (i := 5) (j := 4) (by rfl) d_Model_odds_51) (og_anil))) (by decide) ok_Model_diesOf (v_Model_diesOf (by decide)) og_w1707 d_Model_odds_53) d_Model_odds_56) (og_sseq (og_sif (T := 82) (F := 69) (og_cnot (og_gF (F' := 82) (og_cbne (tgt := 69) (og_callVz (og_acons (og_aload_n (i := 0) (t := 15) (j := 0) (by rfl) (by rfl) d_Model_odds_57) (og_acons (og_iload (i := 5) (j := 4) (by rfl) d_Model_odds_58) (og_anil))) (by decide) ok_Model_isAlive (v_Model_isAlive (by decide)) og_w1641 d_Model_odds_60) d_Model_odds_63 (by decide)) d_Model_odds_66 (by decide))) (og_scont (by decide)) (og_sskip)) (og_sseq (og_istore_n (i := 2) (lt' := [(0, 17), (1, 0), (2, 0), (3, 1), (5, 0)]) (og_ior (og_iload_n (i := 2) (j := 2) (by rfl) (by rfl) d_Model_odds_69) (og_ishl (og_iconst (by decide) d_Model_odds_70) (og_iload (i := 5) (j := 4) (by rfl) d_Model_odds_71) d_Model_odds_73) d_Model_odds_74) (by rfl) (by decide) (by decide) d_Model_odds_75) (og_lstore_n (i := 3) (lt' := [(0, 17), (1, 0), (2, 0), (3, 1), (5, 0)]) (og_lmul_ (og_lload_n (i := 3) (j := 3) (by rfl) (by rfl) d_Model_odds_76) (og_ldc2 (x := 100) (by decide) og_w1870 d_Model_odds_77) d_Model_odds_80) (by rfl) (by decide) (by decide) d_Model_odds_81)))) (og_gS (b' := 35) (og_iinc (j := 4) (lt' := [(0, 17), (1, 0), (2, 0), (3, 1), (5, 0)]) (by rfl) (by decide) (by decide) d_Model_odds_82) d_Model_odds_85 (by decide)))) (by decide)) (og_sseq (og_sif (T := 93) (F := 95) (og_ccn og_n_eq (og_ine (tgt := 95) (og_iload_n (i := 1) (j := 1) (by rfl) (by rfl) d_Model_odds_88) (og_iconst (by decide) d_Model_odds_89) d_Model_odds_90 (by decide))) (og_sretl (og_lload_n (i := 3) (j := 3) (by rfl) (by rfl) d_Model_odds_93) d_Model_odds_94) (og_sskip)) (og_sseq (og_lstore (i := 5) (lt' := [(0, 17), (1, 0), (2, 0), (3, 1), (5, 1)]) (og_lconst (x := 0) d_Model_odds_95) (by decide) (by decide) d_Model_odds_96) (og_sseq (og_callVv (og_acons (og_aload_n (i := 0) (t := 15) (j := 0) (by rfl) (by rfl) d_Model_odds_98) (og_anil)) ok_Model_putsAside (v_Model_putsAside (by decide)) og_w1780 d_Model_odds_99) (og_scut (og_sdrop (lt' := [(0, 17), (1, 0), (2, 0), (3, 1), (5, 1), (7, 0)]) (lt2 := [(0, 17), (1, 0), (2, 0), (3, 1), (5, 1)]) (og_sseq (og_istore (i := 7) (lt' := [(0, 17), (1, 0), (2, 0), (3, 1), (5, 1), (7, 0)]) (og_iconst (by decide) d_Model_odds_102) (by decide) (by decide) d_Model_odds_103) (og_swhile (T := 116) (F := 184) (cp0 := 178) (og_ccn og_n_lt (og_ige (tgt := 184) (og_iload (i := 7) (j := 5) (by rfl) d_Model_odds_105) (og_ishl (og_iconst (by decide) d_Model_odds_107) (og_callVi (og_acons (og_aload_n (i := 0) (t := 15) (j := 0) (by rfl) (by rfl) d_Model_odds_108) (og_anil)) (by decide) ok_Model_personMany (v_Model_personMany (by decide)) og_w1637 d_Model_odds_109) d_Model_odds_112) d_Model_odds_113 (by decide))) (og_sdrop (lt' := [(0, 17), (1, 0), (2, 0), (3, 1), (5, 1), (7, 0), (8, 1)]) (lt2 := [(0, 17), (1, 0), (2, 0), (3, 1), (5, 1), (7, 0)]) (og_sseq (og_lstore (i := 8) (lt' := [(0, 17), (1, 0), (2, 0), (3, 1), (5, 1), (7, 0), (8, 1)]) (og_eite (og_ccn og_n_ne (og_zeq (tgt := 129) (og_iand (og_iload (i := 7) (j := 5) (by rfl) d_Model_odds_116) (og_ixor (og_iload_n (i := 2) (j := 2) (by rfl) (by rfl) d_Model_odds_118) (og_iconst (by decide) d_Model_odds_119) d_Model_odds_120) d_Model_odds_121) d_Model_odds_122 (by decide))) (og_lconst (x := 0) d_Model_odds_125) d_Model_odds_126 (by decide) (og_callVl (og_acons (og_aload_n (i := 0) (t := 15) (j := 0) (by rfl) (by rfl) d_Model_odds_129) (og_acons (og_iload (i := 7) (j := 5) (by rfl) d_Model_odds_130) (og_acons (og_iload_n (i := 2) (j := 2) (by rfl) (by rfl) d_Model_odds_132) (og_anil)))) (by decide) ok_Model_rowsBy (v_Model_rowsBy (by decide)) og_w1871 d_Model_odds_133)) (by decide) (by decide) d_Model_odds_136) (og_sseq (og_sif (T := 178) (F := 148) (og_gT (T' := 178) (og_ccn og_n_eq (og_lne (tgt := 148) (og_lload (i := 8) (j := 6) (by rfl) d_Model_odds_138) (og_lconst (x := 0) d_Model_odds_140) d_Model_odds_141 d_Model_odds_142 (by decide))) d_Model_odds_145 (by decide)) (og_scont (by decide)) (og_sskip)) (og_sseq (og_callVv (og_acons (og_aload_n (i := 0) (t := 15) (j := 0) (by rfl) (by rfl) d_Model_odds_148) (og_acons (og_iload (i := 7) (j := 5) (by rfl) d_Model_odds_149) (og_anil))) ok_Model_die (v_Model_die (by decide)) og_w1875 d_Model_odds_151) (og_sseq (og_callVv (og_acons (og_aload_n (i := 0) (t := 15) (j := 0) (by rfl) (by rfl) d_Model_odds_154) (og_anil)) ok_Model_monthGoes (v_Model_monthGoes (by decide)) og_w1788 d_Model_odds_155) (og_scut (og_sif (T := 167) (F := 174) (og_ccn og_n_ne (og_ieq (tgt := 174) (og_callVi (og_acons (og_aload_n (i := 0) (t := 15) (j := 0) (by rfl) (by rfl) d_Model_odds_158) (og_acons (og_iload_n (i := 1) (j := 1) (by rfl) (by rfl) d_Model_odds_159) (og_anil))) (by decide) ok_Model_inGrave (v_Model_inGrave (by decide)) og_w1661 d_Model_odds_160) (og_iconst (by decide) d_Model_odds_163) d_Model_odds_164 (by decide))) (og_lstore (i := 5) (lt' := [(0, 17), (1, 0), (2, 0), (3, 1), (5, 1), (7, 0), (8, 1)]) (og_ladd_ (og_lload (i := 5) (j := 4) (by rfl) d_Model_odds_167) (og_lload (i := 8) (j := 6) (by rfl) d_Model_odds_169) d_Model_odds_171) (by decide) (by decide) d_Model_odds_172) (og_sskip)) (og_callVv (og_acons (og_aload_n (i := 0) (t := 15) (j := 0) (by rfl) (by rfl) d_Model_odds_174) (og_anil)) ok_Model_triesAnew (v_Model_triesAnew (by decide)) og_w1812 d_Model_odds_175)))))) (by decide)) (og_gS (b' := 105) (og_iinc (j := 5) (lt' := [(0, 17), (1, 0), (2, 0), (3, 1), (5, 1), (7, 0)]) (by rfl) (by decide) (by decide) d_Model_odds_178) d_Model_odds_181 (by decide)))) (by decide)) (og_sseq (og_callVv (og_acons (og_aload_n (i := 0) (t := 15) (j := 0) (by rfl) (by rfl) d_Model_odds_184) (og_anil)) ok_Model_takesBack (v_Model_takesBack (by decide)) og_w1808 d_Model_odds_185) (og_sretl (og_lload (i := 5) (j := 4) (by rfl) d_Model_odds_188) d_Model_odds_190)))))))))) (fun h => by cases h)
abbrev og_c_Model_refuses : ByteArray := prog_14_method_84_code
abbrev og_y_Model_refuses : MethodName := ⟨"OpenGravesModel", "refuses", "(I)I"⟩
theorem v_Model_refuses {own : String} {idx dep : Nat} (h : 1 + 1 ≤ dep) : og_sV own idx og_y_Model_refuses og_c_Model_refuses 2 0 1 dep 13 1 := ⟨⟨12, og_sl_Model, og_T_Model, 102, rfl, by decide, rfl⟩, og_w1885, (og_memP (⟨"OpenGravesModel", "refuses", "(I)I"⟩, 102) (List.mem_of_getElem? (i := 131) (by decide +kernel))), og_w17, og_w1886, ⟨by decide +kernel, by decide +kernel, by decide +kernel⟩, h, by decide⟩
theorem d_Model_refuses_0 : decode og_c_Model_refuses 0 = .ok (.aload_n 0, 1) := by decide +kernel
theorem d_Model_refuses_1 : decode og_c_Model_refuses 1 = .ok (.getfield 17, 3) := by decide +kernel
theorem d_Model_refuses_4 : decode og_c_Model_refuses 4 = .ok (.iload_n 1, 1) := by decide +kernel
theorem d_Model_refuses_5 : decode og_c_Model_refuses 5 = .ok (.dup2, 1) := by decide +kernel
theorem d_Model_refuses_6 : decode og_c_Model_refuses 6 = .ok (.iaload, 1) := by decide +kernel
theorem d_Model_refuses_7 : decode og_c_Model_refuses 7 = .ok (.iconst 1, 1) := by decide +kernel
theorem d_Model_refuses_8 : decode og_c_Model_refuses 8 = .ok (.iadd, 1) := by decide +kernel
theorem d_Model_refuses_9 : decode og_c_Model_refuses 9 = .ok (.iastore, 1) := by decide +kernel
theorem d_Model_refuses_10 : decode og_c_Model_refuses 10 = .ok (.iconst (-1), 1) := by decide +kernel
theorem d_Model_refuses_11 : decode og_c_Model_refuses 11 = .ok (.ireturn, 1) := by decide +kernel
def m_Model_refuses : og_Dn := og_den [17, 0] 2 0 (og_seq (og_aop og_padd 6 (og_fix (fun _ => 1002) (og_loc 0)) (og_loc 1) (og_k 1)) (og_ret (og_k (-1))))
set_option maxRecDepth 20000 in
theorem ok_Model_refuses : og_MOK og_y_Model_refuses og_c_Model_refuses 2 0 1 [17, 0] m_Model_refuses := og_method (b := 0) (lt' := []) (by decide +kernel) (by decide) (by decide) (og_sseq (og_aadd (N := 6) (og_f_Model_refused (og_aload_n (i := 0) (t := 15) (j := 0) (by rfl) (by rfl) d_Model_refuses_0) og_w1152 d_Model_refuses_1) (by rfl) (og_iload_n (i := 1) (j := 1) (by rfl) (by rfl) d_Model_refuses_4) d_Model_refuses_5 d_Model_refuses_6 (og_iconst (by decide) d_Model_refuses_7) d_Model_refuses_8 d_Model_refuses_9) (og_sreti (og_iconst (by decide) d_Model_refuses_10) d_Model_refuses_11)) (fun h => by cases h)
abbrev og_c_Model_see : ByteArray := prog_14_method_85_code
abbrev og_y_Model_see : MethodName := ⟨"OpenGravesModel", "see", "()I"⟩
theorem v_Model_see {own : String} {idx dep : Nat} (h : 3 + 1 ≤ dep) : og_sV own idx og_y_Model_see og_c_Model_see 4 0 3 dep 13 0 := ⟨⟨12, og_sl_Model, og_T_Model, 102, rfl, by decide, rfl⟩, og_w1880, og_w1881, og_w17, og_w1882, ⟨by decide +kernel, by decide +kernel, by decide +kernel⟩, h, by decide⟩
theorem d_Model_see_0 : decode og_c_Model_see 0 = .ok (.aload_n 0, 1) := by decide +kernel
theorem d_Model_see_1 : decode og_c_Model_see 1 = .ok (.getfield 239, 3) := by decide +kernel
theorem d_Model_see_4 : decode og_c_Model_see 4 = .ok (.istore_n 1, 1) := by decide +kernel
theorem d_Model_see_5 : decode og_c_Model_see 5 = .ok (.aload_n 0, 1) := by decide +kernel
theorem d_Model_see_6 : decode og_c_Model_see 6 = .ok (.iconst 0, 1) := by decide +kernel
theorem d_Model_see_7 : decode og_c_Model_see 7 = .ok (.putfield 239, 3) := by decide +kernel
theorem d_Model_see_10 : decode og_c_Model_see 10 = .ok (.iload_n 1, 1) := by decide +kernel
theorem d_Model_see_11 : decode og_c_Model_see 11 = .ok (.ifCond .le 21, 3) := by decide +kernel
theorem d_Model_see_14 : decode og_c_Model_see 14 = .ok (.iload_n 1, 1) := by decide +kernel
theorem d_Model_see_15 : decode og_c_Model_see 15 = .ok (.iconst 3, 1) := by decide +kernel
theorem d_Model_see_16 : decode og_c_Model_see 16 = .ok (.irem, 1) := by decide +kernel
theorem d_Model_see_17 : decode og_c_Model_see 17 = .ok (.ifCond .ne 15, 3) := by decide +kernel
theorem d_Model_see_20 : decode og_c_Model_see 20 = .ok (.iload_n 1, 1) := by decide +kernel
theorem d_Model_see_21 : decode og_c_Model_see 21 = .ok (.iconst 3, 1) := by decide +kernel
theorem d_Model_see_22 : decode og_c_Model_see 22 = .ok (.idiv, 1) := by decide +kernel
theorem d_Model_see_23 : decode og_c_Model_see 23 = .ok (.bipush 16, 2) := by decide +kernel
theorem d_Model_see_25 : decode og_c_Model_see 25 = .ok (.if_icmp .gt 7, 3) := by decide +kernel
theorem d_Model_see_28 : decode og_c_Model_see 28 = .ok (.iconst 1, 1) := by decide +kernel
theorem d_Model_see_29 : decode og_c_Model_see 29 = .ok (.goto 4, 3) := by decide +kernel
theorem d_Model_see_32 : decode og_c_Model_see 32 = .ok (.iconst 0, 1) := by decide +kernel
theorem d_Model_see_33 : decode og_c_Model_see 33 = .ok (.istore_n 2, 1) := by decide +kernel
theorem d_Model_see_34 : decode og_c_Model_see 34 = .ok (.iconst 0, 1) := by decide +kernel
theorem d_Model_see_35 : decode og_c_Model_see 35 = .ok (.istore_n 3, 1) := by decide +kernel
theorem d_Model_see_36 : decode og_c_Model_see 36 = .ok (.iload_n 3, 1) := by decide +kernel
theorem d_Model_see_37 : decode og_c_Model_see 37 = .ok (.iload_n 1, 1) := by decide +kernel
theorem d_Model_see_38 : decode og_c_Model_see 38 = .ok (.if_icmp .ge 58, 3) := by decide +kernel
theorem d_Model_see_41 : decode og_c_Model_see 41 = .ok (.iload_n 2, 1) := by decide +kernel
theorem d_Model_see_42 : decode og_c_Model_see 42 = .ok (.ifCond .eq 54, 3) := by decide +kernel
theorem d_Model_see_45 : decode og_c_Model_see 45 = .ok (.aload_n 0, 1) := by decide +kernel
theorem d_Model_see_46 : decode og_c_Model_see 46 = .ok (.getfield 7, 3) := by decide +kernel
theorem d_Model_see_49 : decode og_c_Model_see 49 = .ok (.iload_n 3, 1) := by decide +kernel
theorem d_Model_see_50 : decode og_c_Model_see 50 = .ok (.iaload, 1) := by decide +kernel
theorem d_Model_see_51 : decode og_c_Model_see 51 = .ok (.bipush 30, 2) := by decide +kernel
theorem d_Model_see_53 : decode og_c_Model_see 53 = .ok (.if_icmp .gt 35, 3) := by decide +kernel
theorem d_Model_see_56 : decode og_c_Model_see 56 = .ok (.aload_n 0, 1) := by decide +kernel
theorem d_Model_see_57 : decode og_c_Model_see 57 = .ok (.aload_n 0, 1) := by decide +kernel
theorem d_Model_see_58 : decode og_c_Model_see 58 = .ok (.getfield 7, 3) := by decide +kernel
theorem d_Model_see_61 : decode og_c_Model_see 61 = .ok (.iload_n 3, 1) := by decide +kernel
theorem d_Model_see_62 : decode og_c_Model_see 62 = .ok (.iconst 1, 1) := by decide +kernel
theorem d_Model_see_63 : decode og_c_Model_see 63 = .ok (.iadd, 1) := by decide +kernel
theorem d_Model_see_64 : decode og_c_Model_see 64 = .ok (.iaload, 1) := by decide +kernel
theorem d_Model_see_65 : decode og_c_Model_see 65 = .ok (.i2l, 1) := by decide +kernel
theorem d_Model_see_66 : decode og_c_Model_see 66 = .ok (.invokevirtual 485, 3) := by decide +kernel
theorem d_Model_see_69 : decode og_c_Model_see 69 = .ok (.ifCond .eq 19, 3) := by decide +kernel
theorem d_Model_see_72 : decode og_c_Model_see 72 = .ok (.aload_n 0, 1) := by decide +kernel
theorem d_Model_see_73 : decode og_c_Model_see 73 = .ok (.getfield 7, 3) := by decide +kernel
theorem d_Model_see_76 : decode og_c_Model_see 76 = .ok (.iload_n 3, 1) := by decide +kernel
theorem d_Model_see_77 : decode og_c_Model_see 77 = .ok (.iconst 2, 1) := by decide +kernel
theorem d_Model_see_78 : decode og_c_Model_see 78 = .ok (.iadd, 1) := by decide +kernel
theorem d_Model_see_79 : decode og_c_Model_see 79 = .ok (.iaload, 1) := by decide +kernel
theorem d_Model_see_80 : decode og_c_Model_see 80 = .ok (.iconst 1, 1) := by decide +kernel
theorem d_Model_see_81 : decode og_c_Model_see 81 = .ok (.if_icmp .gt 7, 3) := by decide +kernel
theorem d_Model_see_84 : decode og_c_Model_see 84 = .ok (.iconst 1, 1) := by decide +kernel
theorem d_Model_see_85 : decode og_c_Model_see 85 = .ok (.goto 4, 3) := by decide +kernel
theorem d_Model_see_88 : decode og_c_Model_see 88 = .ok (.iconst 0, 1) := by decide +kernel
theorem d_Model_see_89 : decode og_c_Model_see 89 = .ok (.istore_n 2, 1) := by decide +kernel
theorem d_Model_see_90 : decode og_c_Model_see 90 = .ok (.iinc 3 3, 3) := by decide +kernel
theorem d_Model_see_93 : decode og_c_Model_see 93 = .ok (.goto (-57), 3) := by decide +kernel
theorem d_Model_see_96 : decode og_c_Model_see 96 = .ok (.iload_n 2, 1) := by decide +kernel
theorem d_Model_see_97 : decode og_c_Model_see 97 = .ok (.ifCond .ne 9, 3) := by decide +kernel
theorem d_Model_see_100 : decode og_c_Model_see 100 = .ok (.aload_n 0, 1) := by decide +kernel
theorem d_Model_see_101 : decode og_c_Model_see 101 = .ok (.iconst 1, 1) := by decide +kernel
theorem d_Model_see_102 : decode og_c_Model_see 102 = .ok (.invokevirtual 551, 3) := by decide +kernel
theorem d_Model_see_105 : decode og_c_Model_see 105 = .ok (.ireturn, 1) := by decide +kernel
theorem d_Model_see_106 : decode og_c_Model_see 106 = .ok (.iconst 0, 1) := by decide +kernel
theorem d_Model_see_107 : decode og_c_Model_see 107 = .ok (.istore_n 3, 1) := by decide +kernel
theorem d_Model_see_108 : decode og_c_Model_see 108 = .ok (.iload_n 3, 1) := by decide +kernel
theorem d_Model_see_109 : decode og_c_Model_see 109 = .ok (.iload_n 1, 1) := by decide +kernel
theorem d_Model_see_110 : decode og_c_Model_see 110 = .ok (.if_icmp .ge 21, 3) := by decide +kernel
theorem d_Model_see_113 : decode og_c_Model_see 113 = .ok (.aload_n 0, 1) := by decide +kernel
theorem d_Model_see_114 : decode og_c_Model_see 114 = .ok (.getfield 148, 3) := by decide +kernel
theorem d_Model_see_117 : decode og_c_Model_see 117 = .ok (.iload_n 3, 1) := by decide +kernel
theorem d_Model_see_118 : decode og_c_Model_see 118 = .ok (.aload_n 0, 1) := by decide +kernel
theorem d_Model_see_119 : decode og_c_Model_see 119 = .ok (.getfield 7, 3) := by decide +kernel
theorem d_Model_see_122 : decode og_c_Model_see 122 = .ok (.iload_n 3, 1) := by decide +kernel
theorem d_Model_see_123 : decode og_c_Model_see 123 = .ok (.iaload, 1) := by decide +kernel
theorem d_Model_see_124 : decode og_c_Model_see 124 = .ok (.iastore, 1) := by decide +kernel
theorem d_Model_see_125 : decode og_c_Model_see 125 = .ok (.iinc 3 1, 3) := by decide +kernel
theorem d_Model_see_128 : decode og_c_Model_see 128 = .ok (.goto (-20), 3) := by decide +kernel
theorem d_Model_see_131 : decode og_c_Model_see 131 = .ok (.aload_n 0, 1) := by decide +kernel
theorem d_Model_see_132 : decode og_c_Model_see 132 = .ok (.iload_n 1, 1) := by decide +kernel
theorem d_Model_see_133 : decode og_c_Model_see 133 = .ok (.iconst 3, 1) := by decide +kernel
theorem d_Model_see_134 : decode og_c_Model_see 134 = .ok (.idiv, 1) := by decide +kernel
theorem d_Model_see_135 : decode og_c_Model_see 135 = .ok (.putfield 375, 3) := by decide +kernel
theorem d_Model_see_138 : decode og_c_Model_see 138 = .ok (.aload_n 0, 1) := by decide +kernel
theorem d_Model_see_139 : decode og_c_Model_see 139 = .ok (.getfield 375, 3) := by decide +kernel
theorem d_Model_see_142 : decode og_c_Model_see 142 = .ok (.ireturn, 1) := by decide +kernel
def m_Model_see : og_Dn := og_den [17] 4 0 (og_seq (og_set 1 (og_get 1 (og_loc 0))) (og_seq (og_putf 1 (og_loc 0) (og_k 0)) (og_seq (og_set 2 (og_ec (og_and (og_and (og_cc og_rgt (og_loc 1) (og_k 0)) (og_cc og_req (og_rem (og_loc 1) (og_k 3)) (og_k 0))) (og_cc og_rle (og_div (og_loc 1) (og_k 3)) (og_k 16))))) (og_cut (og_seq (og_set 3 (og_k 0)) (og_while (og_and (og_cc og_rlt (og_loc 3) (og_loc 1)) (og_cb (og_loc 2))) (og_set 2 (og_ec (og_and (og_and (og_cc og_rle (og_ald 1600 (og_fix (fun _ => 1001) (og_loc 0)) (og_loc 3)) (og_k 30)) (og_cb (og_call m_Model_isGrave [og_loc 0, og_i2l (og_ald 1600 (og_fix (fun _ => 1001) (og_loc 0)) (og_add (og_loc 3) (og_k 1)))]))) (og_cc og_rle (og_ald 1600 (og_fix (fun _ => 1001) (og_loc 0)) (og_add (og_loc 3) (og_k 2))) (og_k 1))))) (og_inc 3 3))) (og_seq (og_if (og_not (og_cb (og_loc 2))) (og_ret (og_call m_Model_refuses [og_loc 0, og_k 1])) (og_skip)) (og_cut (og_seq (og_set 3 (og_k 0)) (og_while (og_cc og_rlt (og_loc 3) (og_loc 1)) (og_ast 48 (og_fix (fun _ => 1045) (og_loc 0)) (og_loc 3) (og_ald 1600 (og_fix (fun _ => 1001) (og_loc 0)) (og_loc 3))) (og_inc 3 1))) (og_seq (og_putf 61 (og_loc 0) (og_div (og_loc 1) (og_k 3))) (og_ret (og_get 61 (og_loc 0))))))))))
set_option maxRecDepth 20000 in
theorem ok_Model_see : og_MOK og_y_Model_see og_c_Model_see 4 0 3 [17] m_Model_see := og_method (b := 0) (lt' := []) (by decide +kernel) (by decide) (by decide) (og_sseq (og_istore_n (i := 1) (lt' := [(0, 17), (1, 0)]) (og_f_Model_taped (og_aload_n (i := 0) (t := 15) (j := 0) (by rfl) (by rfl) d_Model_see_0) og_w1144 d_Model_see_1) (by rfl) (by decide) (by decide) d_Model_see_4) (og_sseq (og_p_Model_taped (og_aload_n (i := 0) (t := 15) (j := 0) (by rfl) (by rfl) d_Model_see_5) (og_iconst (by decide) d_Model_see_6) og_w1144 d_Model_see_7) (og_sseq (og_istore_n (i := 2) (lt' := [(0, 17), (1, 0), (2, 0)]) (og_econd (b := 0) (og_cand (og_cand (og_ccn og_n_gt (og_zle (tgt := 32) (og_iload_n (i := 1) (j := 1) (by rfl) (by rfl) d_Model_see_10) d_Model_see_11 (by decide))) (og_ccn og_n_eq (og_zne (tgt := 32) (og_irem (og_iload_n (i := 1) (j := 1) (by rfl) (by rfl) d_Model_see_14) (og_iconst (by decide) d_Model_see_15) d_Model_see_16) d_Model_see_17 (by decide)))) (og_ccn og_n_le (og_igt (tgt := 32) (og_idiv (og_iload_n (i := 1) (j := 1) (by rfl) (by rfl) d_Model_see_20) (og_iconst (by decide) d_Model_see_21) d_Model_see_22) (og_bipush (by decide) d_Model_see_23) d_Model_see_25 (by decide)))) d_Model_see_28 d_Model_see_29 (by decide) d_Model_see_32 (by rfl)) (by rfl) (by decide) (by decide) d_Model_see_33) (og_scut (og_sdrop (lt' := [(0, 17), (1, 0), (2, 0), (3, 0)]) (lt2 := [(0, 17), (1, 0), (2, 0)]) (og_sseq (og_istore_n (i := 3) (lt' := [(0, 17), (1, 0), (2, 0), (3, 0)]) (og_iconst (by decide) d_Model_see_34) (by rfl) (by decide) (by decide) d_Model_see_35) (og_swhile (T := 45) (F := 96) (cp0 := 90) (og_cand (og_ccn og_n_lt (og_ige (tgt := 96) (og_iload_n (i := 3) (j := 3) (by rfl) (by rfl) d_Model_see_36) (og_iload_n (i := 1) (j := 1) (by rfl) (by rfl) d_Model_see_37) d_Model_see_38 (by decide))) (og_cbeq (tgt := 96) (og_iload_n (i := 2) (j := 2) (by rfl) (by rfl) d_Model_see_41) d_Model_see_42 (by decide))) (og_istore_n (i := 2) (lt' := [(0, 17), (1, 0), (2, 0), (3, 0)]) (og_econd (b := 0) (og_cand (og_cand (og_ccn og_n_le (og_igt (tgt := 88) (og_iald (N := 1600) (og_f_Model_tape (og_aload_n (i := 0) (t := 15) (j := 0) (by rfl) (by rfl) d_Model_see_45) og_w1143 d_Model_see_46) (by rfl) (og_iload_n (i := 3) (j := 3) (by rfl) (by rfl) d_Model_see_49) d_Model_see_50) (og_bipush (by decide) d_Model_see_51) d_Model_see_53 (by decide))) (og_cbeq (tgt := 88) (og_callVz (og_acons (og_aload_n (i := 0) (t := 15) (j := 0) (by rfl) (by rfl) d_Model_see_56) (og_acons (og_i2l_ (og_iald (N := 1600) (og_f_Model_tape (og_aload_n (i := 0) (t := 15) (j := 0) (by rfl) (by rfl) d_Model_see_57) og_w1143 d_Model_see_58) (by rfl) (og_iadd (og_iload_n (i := 3) (j := 3) (by rfl) (by rfl) d_Model_see_61) (og_iconst (by decide) d_Model_see_62) d_Model_see_63) d_Model_see_64) d_Model_see_65) (og_anil))) (by decide) ok_Model_isGrave (v_Model_isGrave (by decide)) og_w1678 d_Model_see_66) d_Model_see_69 (by decide))) (og_ccn og_n_le (og_igt (tgt := 88) (og_iald (N := 1600) (og_f_Model_tape (og_aload_n (i := 0) (t := 15) (j := 0) (by rfl) (by rfl) d_Model_see_72) og_w1143 d_Model_see_73) (by rfl) (og_iadd (og_iload_n (i := 3) (j := 3) (by rfl) (by rfl) d_Model_see_76) (og_iconst (by decide) d_Model_see_77) d_Model_see_78) d_Model_see_79) (og_iconst (by decide) d_Model_see_80) d_Model_see_81 (by decide)))) d_Model_see_84 d_Model_see_85 (by decide) d_Model_see_88 (by rfl)) (by rfl) (by decide) (by decide) d_Model_see_89) (og_gS (b' := 36) (og_iinc (j := 3) (lt' := [(0, 17), (1, 0), (2, 0), (3, 0)]) (by rfl) (by decide) (by decide) d_Model_see_90) d_Model_see_93 (by decide)))) (by decide)) (og_sseq (og_sif (T := 100) (F := 106) (og_cnot (og_cbne (tgt := 106) (og_iload_n (i := 2) (j := 2) (by rfl) (by rfl) d_Model_see_96) d_Model_see_97 (by decide))) (og_sreti (og_callVi (og_acons (og_aload_n (i := 0) (t := 15) (j := 0) (by rfl) (by rfl) d_Model_see_100) (og_acons (og_iconst (by decide) d_Model_see_101) (og_anil))) (by decide) ok_Model_refuses (v_Model_refuses (by decide)) og_w1883 d_Model_see_102) d_Model_see_105) (og_sskip)) (og_scut (og_sdrop (lt' := [(0, 17), (1, 0), (2, 0), (3, 0)]) (lt2 := [(0, 17), (1, 0), (2, 0)]) (og_sseq (og_istore_n (i := 3) (lt' := [(0, 17), (1, 0), (2, 0), (3, 0)]) (og_iconst (by decide) d_Model_see_106) (by rfl) (by decide) (by decide) d_Model_see_107) (og_swhile (T := 113) (F := 131) (cp0 := 125) (og_ccn og_n_lt (og_ige (tgt := 131) (og_iload_n (i := 3) (j := 3) (by rfl) (by rfl) d_Model_see_108) (og_iload_n (i := 1) (j := 1) (by rfl) (by rfl) d_Model_see_109) d_Model_see_110 (by decide))) (og_iastore (N := 48) (og_f_Model_rows (og_aload_n (i := 0) (t := 15) (j := 0) (by rfl) (by rfl) d_Model_see_113) og_w1205 d_Model_see_114) (by rfl) (og_iload_n (i := 3) (j := 3) (by rfl) (by rfl) d_Model_see_117) (og_iald (N := 1600) (og_f_Model_tape (og_aload_n (i := 0) (t := 15) (j := 0) (by rfl) (by rfl) d_Model_see_118) og_w1143 d_Model_see_119) (by rfl) (og_iload_n (i := 3) (j := 3) (by rfl) (by rfl) d_Model_see_122) d_Model_see_123) d_Model_see_124) (og_gS (b' := 108) (og_iinc (j := 3) (lt' := [(0, 17), (1, 0), (2, 0), (3, 0)]) (by rfl) (by decide) (by decide) d_Model_see_125) d_Model_see_128 (by decide)))) (by decide)) (og_sseq (og_p_Model_rowMany (og_aload_n (i := 0) (t := 15) (j := 0) (by rfl) (by rfl) d_Model_see_131) (og_idiv (og_iload_n (i := 1) (j := 1) (by rfl) (by rfl) d_Model_see_132) (og_iconst (by decide) d_Model_see_133) d_Model_see_134) og_w1204 d_Model_see_135) (og_sreti (og_f_Model_rowMany (og_aload_n (i := 0) (t := 15) (j := 0) (by rfl) (by rfl) d_Model_see_138) og_w1204 d_Model_see_139) d_Model_see_142)))))))) (fun h => by cases h)
abbrev og_c_Model_isAsSeen : ByteArray := prog_14_method_86_code
abbrev og_y_Model_isAsSeen : MethodName := ⟨"OpenGravesModel", "isAsSeen", "(I)Z"⟩
theorem v_Model_isAsSeen {own : String} {idx dep : Nat} (h : 2 + 1 ≤ dep) : og_sV own idx og_y_Model_isAsSeen og_c_Model_isAsSeen 3 3 2 dep 13 1 := ⟨⟨12, og_sl_Model, og_T_Model, 102, rfl, by decide, rfl⟩, og_w1897, (og_memP (⟨"OpenGravesModel", "isAsSeen", "(I)Z"⟩, 102) (List.mem_of_getElem? (i := 133) (by decide +kernel))), og_w17, og_w1898, ⟨by decide +kernel, by decide +kernel, by decide +kernel⟩, h, by decide⟩
theorem d_Model_isAsSeen_0 : decode og_c_Model_isAsSeen 0 = .ok (.iconst 0, 1) := by decide +kernel
theorem d_Model_isAsSeen_1 : decode og_c_Model_isAsSeen 1 = .ok (.istore_n 2, 1) := by decide +kernel
theorem d_Model_isAsSeen_2 : decode og_c_Model_isAsSeen 2 = .ok (.iload_n 2, 1) := by decide +kernel
theorem d_Model_isAsSeen_3 : decode og_c_Model_isAsSeen 3 = .ok (.aload_n 0, 1) := by decide +kernel
theorem d_Model_isAsSeen_4 : decode og_c_Model_isAsSeen 4 = .ok (.getfield 375, 3) := by decide +kernel
theorem d_Model_isAsSeen_7 : decode og_c_Model_isAsSeen 7 = .ok (.if_icmp .ge 80, 3) := by decide +kernel
theorem d_Model_isAsSeen_10 : decode og_c_Model_isAsSeen 10 = .ok (.aload_n 0, 1) := by decide +kernel
theorem d_Model_isAsSeen_11 : decode og_c_Model_isAsSeen 11 = .ok (.getfield 148, 3) := by decide +kernel
theorem d_Model_isAsSeen_14 : decode og_c_Model_isAsSeen 14 = .ok (.iconst 3, 1) := by decide +kernel
theorem d_Model_isAsSeen_15 : decode og_c_Model_isAsSeen 15 = .ok (.iload_n 2, 1) := by decide +kernel
theorem d_Model_isAsSeen_16 : decode og_c_Model_isAsSeen 16 = .ok (.imul, 1) := by decide +kernel
theorem d_Model_isAsSeen_17 : decode og_c_Model_isAsSeen 17 = .ok (.iaload, 1) := by decide +kernel
theorem d_Model_isAsSeen_18 : decode og_c_Model_isAsSeen 18 = .ok (.iload_n 1, 1) := by decide +kernel
theorem d_Model_isAsSeen_19 : decode og_c_Model_isAsSeen 19 = .ok (.if_icmp .ne 62, 3) := by decide +kernel
theorem d_Model_isAsSeen_22 : decode og_c_Model_isAsSeen 22 = .ok (.aload_n 0, 1) := by decide +kernel
theorem d_Model_isAsSeen_23 : decode og_c_Model_isAsSeen 23 = .ok (.getfield 124, 3) := by decide +kernel
theorem d_Model_isAsSeen_26 : decode og_c_Model_isAsSeen 26 = .ok (.iconst 0, 1) := by decide +kernel
theorem d_Model_isAsSeen_27 : decode og_c_Model_isAsSeen 27 = .ok (.iaload, 1) := by decide +kernel
theorem d_Model_isAsSeen_28 : decode og_c_Model_isAsSeen 28 = .ok (.sipush 999, 3) := by decide +kernel
theorem d_Model_isAsSeen_31 : decode og_c_Model_isAsSeen 31 = .ok (.if_icmp .gt 48, 3) := by decide +kernel
theorem d_Model_isAsSeen_34 : decode og_c_Model_isAsSeen 34 = .ok (.aload_n 0, 1) := by decide +kernel
theorem d_Model_isAsSeen_35 : decode og_c_Model_isAsSeen 35 = .ok (.aload_n 0, 1) := by decide +kernel
theorem d_Model_isAsSeen_36 : decode og_c_Model_isAsSeen 36 = .ok (.getfield 148, 3) := by decide +kernel
theorem d_Model_isAsSeen_39 : decode og_c_Model_isAsSeen 39 = .ok (.iconst 3, 1) := by decide +kernel
theorem d_Model_isAsSeen_40 : decode og_c_Model_isAsSeen 40 = .ok (.iload_n 2, 1) := by decide +kernel
theorem d_Model_isAsSeen_41 : decode og_c_Model_isAsSeen 41 = .ok (.imul, 1) := by decide +kernel
theorem d_Model_isAsSeen_42 : decode og_c_Model_isAsSeen 42 = .ok (.iconst 1, 1) := by decide +kernel
theorem d_Model_isAsSeen_43 : decode og_c_Model_isAsSeen 43 = .ok (.iadd, 1) := by decide +kernel
theorem d_Model_isAsSeen_44 : decode og_c_Model_isAsSeen 44 = .ok (.iaload, 1) := by decide +kernel
theorem d_Model_isAsSeen_45 : decode og_c_Model_isAsSeen 45 = .ok (.invokevirtual 387, 3) := by decide +kernel
theorem d_Model_isAsSeen_48 : decode og_c_Model_isAsSeen 48 = .ok (.iconst (-1), 1) := by decide +kernel
theorem d_Model_isAsSeen_49 : decode og_c_Model_isAsSeen 49 = .ok (.if_icmp .eq 7, 3) := by decide +kernel
theorem d_Model_isAsSeen_52 : decode og_c_Model_isAsSeen 52 = .ok (.iconst 1, 1) := by decide +kernel
theorem d_Model_isAsSeen_53 : decode og_c_Model_isAsSeen 53 = .ok (.goto 4, 3) := by decide +kernel
theorem d_Model_isAsSeen_56 : decode og_c_Model_isAsSeen 56 = .ok (.iconst 0, 1) := by decide +kernel
theorem d_Model_isAsSeen_57 : decode og_c_Model_isAsSeen 57 = .ok (.aload_n 0, 1) := by decide +kernel
theorem d_Model_isAsSeen_58 : decode og_c_Model_isAsSeen 58 = .ok (.getfield 148, 3) := by decide +kernel
theorem d_Model_isAsSeen_61 : decode og_c_Model_isAsSeen 61 = .ok (.iconst 3, 1) := by decide +kernel
theorem d_Model_isAsSeen_62 : decode og_c_Model_isAsSeen 62 = .ok (.iload_n 2, 1) := by decide +kernel
theorem d_Model_isAsSeen_63 : decode og_c_Model_isAsSeen 63 = .ok (.imul, 1) := by decide +kernel
theorem d_Model_isAsSeen_64 : decode og_c_Model_isAsSeen 64 = .ok (.iconst 2, 1) := by decide +kernel
theorem d_Model_isAsSeen_65 : decode og_c_Model_isAsSeen 65 = .ok (.iadd, 1) := by decide +kernel
theorem d_Model_isAsSeen_66 : decode og_c_Model_isAsSeen 66 = .ok (.iaload, 1) := by decide +kernel
theorem d_Model_isAsSeen_67 : decode og_c_Model_isAsSeen 67 = .ok (.iconst 1, 1) := by decide +kernel
theorem d_Model_isAsSeen_68 : decode og_c_Model_isAsSeen 68 = .ok (.if_icmp .ne 7, 3) := by decide +kernel
theorem d_Model_isAsSeen_71 : decode og_c_Model_isAsSeen 71 = .ok (.iconst 1, 1) := by decide +kernel
theorem d_Model_isAsSeen_72 : decode og_c_Model_isAsSeen 72 = .ok (.goto 4, 3) := by decide +kernel
theorem d_Model_isAsSeen_75 : decode og_c_Model_isAsSeen 75 = .ok (.iconst 0, 1) := by decide +kernel
theorem d_Model_isAsSeen_76 : decode og_c_Model_isAsSeen 76 = .ok (.if_icmp .eq 5, 3) := by decide +kernel
theorem d_Model_isAsSeen_79 : decode og_c_Model_isAsSeen 79 = .ok (.iconst 0, 1) := by decide +kernel
theorem d_Model_isAsSeen_80 : decode og_c_Model_isAsSeen 80 = .ok (.ireturn, 1) := by decide +kernel
theorem d_Model_isAsSeen_81 : decode og_c_Model_isAsSeen 81 = .ok (.iinc 2 1, 3) := by decide +kernel
theorem d_Model_isAsSeen_84 : decode og_c_Model_isAsSeen 84 = .ok (.goto (-82), 3) := by decide +kernel
theorem d_Model_isAsSeen_87 : decode og_c_Model_isAsSeen 87 = .ok (.iconst 1, 1) := by decide +kernel
theorem d_Model_isAsSeen_88 : decode og_c_Model_isAsSeen 88 = .ok (.ireturn, 1) := by decide +kernel
def m_Model_isAsSeen : og_Dn := og_den [17, 0] 3 3 (og_cut (og_seq (og_set 2 (og_k 0)) (og_while (og_cc og_rlt (og_loc 2) (og_get 61 (og_loc 0))) (og_if (og_and (og_cc og_req (og_ald 48 (og_fix (fun _ => 1045) (og_loc 0)) (og_mul (og_k 3) (og_loc 2))) (og_loc 1)) (og_or (og_cc og_rgt (og_ald 204 (og_fix (fun _ => 1037) (og_loc 0)) (og_k 0)) (og_k 999)) (og_cc og_rne (og_ec (og_cc og_rne (og_call m_Model_inGrave [og_loc 0, og_ald 48 (og_fix (fun _ => 1045) (og_loc 0)) (og_add (og_mul (og_k 3) (og_loc 2)) (og_k 1))]) (og_k (-1)))) (og_ec (og_cc og_req (og_ald 48 (og_fix (fun _ => 1045) (og_loc 0)) (og_add (og_mul (og_k 3) (og_loc 2)) (og_k 2))) (og_k 1)))))) (og_retz (og_k 0)) (og_skip)) (og_inc 2 1))) (og_retz (og_k 1)))
set_option maxRecDepth 20000 in
theorem ok_Model_isAsSeen : og_MOK og_y_Model_isAsSeen og_c_Model_isAsSeen 3 3 2 [17, 0] m_Model_isAsSeen := og_method (b := 0) (lt' := []) (by decide +kernel) (by decide) (by decide) (og_scut (og_sdrop (lt' := [(0, 17), (1, 0), (2, 0)]) (lt2 := [(0, 17), (1, 0)]) (og_sseq (og_istore_n (i := 2) (lt' := [(0, 17), (1, 0), (2, 0)]) (og_iconst (by decide) d_Model_isAsSeen_0) (by rfl) (by decide) (by decide) d_Model_isAsSeen_1) (og_swhile (T := 10) (F := 87) (cp0 := 81) (og_ccn og_n_lt (og_ige (tgt := 87) (og_iload_n (i := 2) (j := 2) (by rfl) (by rfl) d_Model_isAsSeen_2) (og_f_Model_rowMany (og_aload_n (i := 0) (t := 15) (j := 0) (by rfl) (by rfl) d_Model_isAsSeen_3) og_w1204 d_Model_isAsSeen_4) d_Model_isAsSeen_7 (by decide))) (og_sif (T := 79) (F := 81) (og_cand (og_ccn og_n_eq (og_ine (tgt := 81) (og_iald (N := 48) (og_f_Model_rows (og_aload_n (i := 0) (t := 15) (j := 0) (by rfl) (by rfl) d_Model_isAsSeen_10) og_w1205 d_Model_isAsSeen_11) (by rfl) (og_imul (og_iconst (by decide) d_Model_isAsSeen_14) (og_iload_n (i := 2) (j := 2) (by rfl) (by rfl) d_Model_isAsSeen_15) d_Model_isAsSeen_16) d_Model_isAsSeen_17) (og_iload_n (i := 1) (j := 1) (by rfl) (by rfl) d_Model_isAsSeen_18) d_Model_isAsSeen_19 (by decide))) (og_cor (og_igt (tgt := 79) (og_iald (N := 204) (og_f_Model_now (og_aload_n (i := 0) (t := 15) (j := 0) (by rfl) (by rfl) d_Model_isAsSeen_22) og_w1192 d_Model_isAsSeen_23) (by rfl) (og_iconst (by decide) d_Model_isAsSeen_26) d_Model_isAsSeen_27) (og_sipush (by decide) d_Model_isAsSeen_28) d_Model_isAsSeen_31 (by decide)) (og_ccn og_n_ne (og_ieq (tgt := 81) (og_econd (b := 0) (og_ccn og_n_ne (og_ieq (tgt := 56) (og_callVi (og_acons (og_aload_n (i := 0) (t := 15) (j := 0) (by rfl) (by rfl) d_Model_isAsSeen_34) (og_acons (og_iald (N := 48) (og_f_Model_rows (og_aload_n (i := 0) (t := 15) (j := 0) (by rfl) (by rfl) d_Model_isAsSeen_35) og_w1205 d_Model_isAsSeen_36) (by rfl) (og_iadd (og_imul (og_iconst (by decide) d_Model_isAsSeen_39) (og_iload_n (i := 2) (j := 2) (by rfl) (by rfl) d_Model_isAsSeen_40) d_Model_isAsSeen_41) (og_iconst (by decide) d_Model_isAsSeen_42) d_Model_isAsSeen_43) d_Model_isAsSeen_44) (og_anil))) (by decide) ok_Model_inGrave (v_Model_inGrave (by decide)) og_w1661 d_Model_isAsSeen_45) (og_iconst (by decide) d_Model_isAsSeen_48) d_Model_isAsSeen_49 (by decide))) d_Model_isAsSeen_52 d_Model_isAsSeen_53 (by decide) d_Model_isAsSeen_56 (by rfl)) (og_econd (b := 0) (og_ccn og_n_eq (og_ine (tgt := 75) (og_iald (N := 48) (og_f_Model_rows (og_aload_n (i := 0) (t := 15) (j := 0) (by rfl) (by rfl) d_Model_isAsSeen_57) og_w1205 d_Model_isAsSeen_58) (by rfl) (og_iadd (og_imul (og_iconst (by decide) d_Model_isAsSeen_61) (og_iload_n (i := 2) (j := 2) (by rfl) (by rfl) d_Model_isAsSeen_62) d_Model_isAsSeen_63) (og_iconst (by decide) d_Model_isAsSeen_64) d_Model_isAsSeen_65) d_Model_isAsSeen_66) (og_iconst (by decide) d_Model_isAsSeen_67) d_Model_isAsSeen_68 (by decide))) d_Model_isAsSeen_71 d_Model_isAsSeen_72 (by decide) d_Model_isAsSeen_75 (by rfl)) d_Model_isAsSeen_76 (by decide))))) (og_sretz (og_iconst (by decide) d_Model_isAsSeen_79) d_Model_isAsSeen_80) (og_sskip)) (og_gS (b' := 2) (og_iinc (j := 2) (lt' := [(0, 17), (1, 0), (2, 0)]) (by rfl) (by decide) (by decide) d_Model_isAsSeen_81) d_Model_isAsSeen_84 (by decide)))) (by decide)) (og_sretz (og_iconst (by decide) d_Model_isAsSeen_87) d_Model_isAsSeen_88)) (fun h => by cases h)
abbrev og_c_Model_fillSet : ByteArray := prog_14_method_87_code
abbrev og_y_Model_fillSet : MethodName := ⟨"OpenGravesModel", "fillSet", "()I"⟩
theorem v_Model_fillSet {own : String} {idx dep : Nat} (h : 2 + 1 ≤ dep) : og_sV own idx og_y_Model_fillSet og_c_Model_fillSet 3 0 2 dep 13 0 := ⟨⟨12, og_sl_Model, og_T_Model, 102, rfl, by decide, rfl⟩, og_w1901, (og_memP (⟨"OpenGravesModel", "fillSet", "()I"⟩, 102) (List.mem_of_getElem? (i := 134) (by decide +kernel))), og_w17, og_w1902, ⟨by decide +kernel, by decide +kernel, by decide +kernel⟩, h, by decide⟩
theorem d_Model_fillSet_0 : decode og_c_Model_fillSet 0 = .ok (.iconst 0, 1) := by decide +kernel
theorem d_Model_fillSet_1 : decode og_c_Model_fillSet 1 = .ok (.istore_n 1, 1) := by decide +kernel
theorem d_Model_fillSet_2 : decode og_c_Model_fillSet 2 = .ok (.iconst 0, 1) := by decide +kernel
theorem d_Model_fillSet_3 : decode og_c_Model_fillSet 3 = .ok (.istore_n 2, 1) := by decide +kernel
theorem d_Model_fillSet_4 : decode og_c_Model_fillSet 4 = .ok (.iload_n 2, 1) := by decide +kernel
theorem d_Model_fillSet_5 : decode og_c_Model_fillSet 5 = .ok (.aload_n 0, 1) := by decide +kernel
theorem d_Model_fillSet_6 : decode og_c_Model_fillSet 6 = .ok (.invokevirtual 378, 3) := by decide +kernel
theorem d_Model_fillSet_9 : decode og_c_Model_fillSet 9 = .ok (.if_icmp .ge 24, 3) := by decide +kernel
theorem d_Model_fillSet_12 : decode og_c_Model_fillSet 12 = .ok (.aload_n 0, 1) := by decide +kernel
theorem d_Model_fillSet_13 : decode og_c_Model_fillSet 13 = .ok (.iload_n 2, 1) := by decide +kernel
theorem d_Model_fillSet_14 : decode og_c_Model_fillSet 14 = .ok (.invokevirtual 387, 3) := by decide +kernel
theorem d_Model_fillSet_17 : decode og_c_Model_fillSet 17 = .ok (.iconst (-1), 1) := by decide +kernel
theorem d_Model_fillSet_18 : decode og_c_Model_fillSet 18 = .ok (.if_icmp .eq 9, 3) := by decide +kernel
theorem d_Model_fillSet_21 : decode og_c_Model_fillSet 21 = .ok (.iload_n 1, 1) := by decide +kernel
theorem d_Model_fillSet_22 : decode og_c_Model_fillSet 22 = .ok (.iconst 1, 1) := by decide +kernel
theorem d_Model_fillSet_23 : decode og_c_Model_fillSet 23 = .ok (.iload_n 2, 1) := by decide +kernel
theorem d_Model_fillSet_24 : decode og_c_Model_fillSet 24 = .ok (.ishl, 1) := by decide +kernel
theorem d_Model_fillSet_25 : decode og_c_Model_fillSet 25 = .ok (.ior, 1) := by decide +kernel
theorem d_Model_fillSet_26 : decode og_c_Model_fillSet 26 = .ok (.istore_n 1, 1) := by decide +kernel
theorem d_Model_fillSet_27 : decode og_c_Model_fillSet 27 = .ok (.iinc 2 1, 3) := by decide +kernel
theorem d_Model_fillSet_30 : decode og_c_Model_fillSet 30 = .ok (.goto (-26), 3) := by decide +kernel
theorem d_Model_fillSet_33 : decode og_c_Model_fillSet 33 = .ok (.iload_n 1, 1) := by decide +kernel
theorem d_Model_fillSet_34 : decode og_c_Model_fillSet 34 = .ok (.ireturn, 1) := by decide +kernel
def m_Model_fillSet : og_Dn := og_den [17] 3 0 (og_seq (og_set 1 (og_k 0)) (og_cut (og_seq (og_set 2 (og_k 0)) (og_while (og_cc og_rlt (og_loc 2) (og_call m_Model_graveMany [og_loc 0])) (og_if (og_cc og_rne (og_call m_Model_inGrave [og_loc 0, og_loc 2]) (og_k (-1))) (og_set 1 (og_bop og_oor (og_loc 1) (og_bop og_oshl (og_k 1) (og_loc 2)))) (og_skip)) (og_inc 2 1))) (og_ret (og_loc 1))))
set_option maxRecDepth 20000 in
theorem ok_Model_fillSet : og_MOK og_y_Model_fillSet og_c_Model_fillSet 3 0 2 [17] m_Model_fillSet := og_method (b := 0) (lt' := []) (by decide +kernel) (by decide) (by decide) (og_sseq (og_istore_n (i := 1) (lt' := [(0, 17), (1, 0)]) (og_iconst (by decide) d_Model_fillSet_0) (by rfl) (by decide) (by decide) d_Model_fillSet_1) (og_scut (og_sdrop (lt' := [(0, 17), (1, 0), (2, 0)]) (lt2 := [(0, 17), (1, 0)]) (og_sseq (og_istore_n (i := 2) (lt' := [(0, 17), (1, 0), (2, 0)]) (og_iconst (by decide) d_Model_fillSet_2) (by rfl) (by decide) (by decide) d_Model_fillSet_3) (og_swhile (T := 12) (F := 33) (cp0 := 27) (og_ccn og_n_lt (og_ige (tgt := 33) (og_iload_n (i := 2) (j := 2) (by rfl) (by rfl) d_Model_fillSet_4) (og_callVi (og_acons (og_aload_n (i := 0) (t := 15) (j := 0) (by rfl) (by rfl) d_Model_fillSet_5) (og_anil)) (by decide) ok_Model_graveMany (v_Model_graveMany (by decide)) og_w1649 d_Model_fillSet_6) d_Model_fillSet_9 (by decide))) (og_sif (T := 21) (F := 27) (og_ccn og_n_ne (og_ieq (tgt := 27) (og_callVi (og_acons (og_aload_n (i := 0) (t := 15) (j := 0) (by rfl) (by rfl) d_Model_fillSet_12) (og_acons (og_iload_n (i := 2) (j := 2) (by rfl) (by rfl) d_Model_fillSet_13) (og_anil))) (by decide) ok_Model_inGrave (v_Model_inGrave (by decide)) og_w1661 d_Model_fillSet_14) (og_iconst (by decide) d_Model_fillSet_17) d_Model_fillSet_18 (by decide))) (og_istore_n (i := 1) (lt' := [(0, 17), (1, 0), (2, 0)]) (og_ior (og_iload_n (i := 1) (j := 1) (by rfl) (by rfl) d_Model_fillSet_21) (og_ishl (og_iconst (by decide) d_Model_fillSet_22) (og_iload_n (i := 2) (j := 2) (by rfl) (by rfl) d_Model_fillSet_23) d_Model_fillSet_24) d_Model_fillSet_25) (by rfl) (by decide) (by decide) d_Model_fillSet_26) (og_sskip)) (og_gS (b' := 4) (og_iinc (j := 2) (lt' := [(0, 17), (1, 0), (2, 0)]) (by rfl) (by decide) (by decide) d_Model_fillSet_27) d_Model_fillSet_30 (by decide)))) (by decide)) (og_sreti (og_iload_n (i := 1) (j := 1) (by rfl) (by rfl) d_Model_fillSet_33) d_Model_fillSet_34))) (fun h => by cases h)
abbrev og_c_Model_willSet : ByteArray := prog_14_method_88_code
abbrev og_y_Model_willSet : MethodName := ⟨"OpenGravesModel", "willSet", "(I)I"⟩
theorem v_Model_willSet {own : String} {idx dep : Nat} (h : 9 + 1 ≤ dep) : og_sV own idx og_y_Model_willSet og_c_Model_willSet 6 0 9 dep 13 1 := ⟨⟨12, og_sl_Model, og_T_Model, 102, rfl, by decide, rfl⟩, og_w1893, (og_memP (⟨"OpenGravesModel", "willSet", "(I)I"⟩, 102) (List.mem_of_getElem? (i := 132) (by decide +kernel))), og_w17, og_w1894, ⟨by decide +kernel, by decide +kernel, by decide +kernel⟩, h, by decide⟩
theorem d_Model_willSet_0 : decode og_c_Model_willSet 0 = .ok (.iconst 0, 1) := by decide +kernel
theorem d_Model_willSet_1 : decode og_c_Model_willSet 1 = .ok (.istore_n 2, 1) := by decide +kernel
theorem d_Model_willSet_2 : decode og_c_Model_willSet 2 = .ok (.aload_n 0, 1) := by decide +kernel
theorem d_Model_willSet_3 : decode og_c_Model_willSet 3 = .ok (.invokevirtual 508, 3) := by decide +kernel
theorem d_Model_willSet_6 : decode og_c_Model_willSet 6 = .ok (.iconst 0, 1) := by decide +kernel
theorem d_Model_willSet_7 : decode og_c_Model_willSet 7 = .ok (.istore_n 3, 1) := by decide +kernel
theorem d_Model_willSet_8 : decode og_c_Model_willSet 8 = .ok (.iload_n 3, 1) := by decide +kernel
theorem d_Model_willSet_9 : decode og_c_Model_willSet 9 = .ok (.bipush 9, 2) := by decide +kernel
theorem d_Model_willSet_11 : decode og_c_Model_willSet 11 = .ok (.if_icmp .gt 96, 3) := by decide +kernel
theorem d_Model_willSet_14 : decode og_c_Model_willSet 14 = .ok (.aload_n 0, 1) := by decide +kernel
theorem d_Model_willSet_15 : decode og_c_Model_willSet 15 = .ok (.getfield 124, 3) := by decide +kernel
theorem d_Model_willSet_18 : decode og_c_Model_willSet 18 = .ok (.bipush 21, 2) := by decide +kernel
theorem d_Model_willSet_20 : decode og_c_Model_willSet 20 = .ok (.iconst 3, 1) := by decide +kernel
theorem d_Model_willSet_21 : decode og_c_Model_willSet 21 = .ok (.iload_n 1, 1) := by decide +kernel
theorem d_Model_willSet_22 : decode og_c_Model_willSet 22 = .ok (.imul, 1) := by decide +kernel
theorem d_Model_willSet_23 : decode og_c_Model_willSet 23 = .ok (.iadd, 1) := by decide +kernel
theorem d_Model_willSet_24 : decode og_c_Model_willSet 24 = .ok (.iload_n 3, 1) := by decide +kernel
theorem d_Model_willSet_25 : decode og_c_Model_willSet 25 = .ok (.iastore, 1) := by decide +kernel
theorem d_Model_willSet_26 : decode og_c_Model_willSet 26 = .ok (.iconst 1, 1) := by decide +kernel
theorem d_Model_willSet_27 : decode og_c_Model_willSet 27 = .ok (.istore 4, 2) := by decide +kernel
theorem d_Model_willSet_29 : decode og_c_Model_willSet 29 = .ok (.iconst 0, 1) := by decide +kernel
theorem d_Model_willSet_30 : decode og_c_Model_willSet 30 = .ok (.istore 5, 2) := by decide +kernel
theorem d_Model_willSet_32 : decode og_c_Model_willSet 32 = .ok (.iload 5, 2) := by decide +kernel
theorem d_Model_willSet_34 : decode og_c_Model_willSet 34 = .ok (.bipush 30, 2) := by decide +kernel
theorem d_Model_willSet_36 : decode og_c_Model_willSet 36 = .ok (.if_icmp .gt 50, 3) := by decide +kernel
theorem d_Model_willSet_39 : decode og_c_Model_willSet 39 = .ok (.iload 4, 2) := by decide +kernel
theorem d_Model_willSet_41 : decode og_c_Model_willSet 41 = .ok (.ifCond .eq 16, 3) := by decide +kernel
theorem d_Model_willSet_44 : decode og_c_Model_willSet 44 = .ok (.aload_n 0, 1) := by decide +kernel
theorem d_Model_willSet_45 : decode og_c_Model_willSet 45 = .ok (.iload 5, 2) := by decide +kernel
theorem d_Model_willSet_47 : decode og_c_Model_willSet 47 = .ok (.invokevirtual 554, 3) := by decide +kernel
theorem d_Model_willSet_50 : decode og_c_Model_willSet 50 = .ok (.ifCond .eq 7, 3) := by decide +kernel
theorem d_Model_willSet_53 : decode og_c_Model_willSet 53 = .ok (.iconst 1, 1) := by decide +kernel
theorem d_Model_willSet_54 : decode og_c_Model_willSet 54 = .ok (.goto 4, 3) := by decide +kernel
theorem d_Model_willSet_57 : decode og_c_Model_willSet 57 = .ok (.iconst 0, 1) := by decide +kernel
theorem d_Model_willSet_58 : decode og_c_Model_willSet 58 = .ok (.istore 4, 2) := by decide +kernel
theorem d_Model_willSet_60 : decode og_c_Model_willSet 60 = .ok (.aload_n 0, 1) := by decide +kernel
theorem d_Model_willSet_61 : decode og_c_Model_willSet 61 = .ok (.getfield 151, 3) := by decide +kernel
theorem d_Model_willSet_64 : decode og_c_Model_willSet 64 = .ok (.bipush 31, 2) := by decide +kernel
theorem d_Model_willSet_66 : decode og_c_Model_willSet 66 = .ok (.iload_n 3, 1) := by decide +kernel
theorem d_Model_willSet_67 : decode og_c_Model_willSet 67 = .ok (.imul, 1) := by decide +kernel
theorem d_Model_willSet_68 : decode og_c_Model_willSet 68 = .ok (.iload 5, 2) := by decide +kernel
theorem d_Model_willSet_70 : decode og_c_Model_willSet 70 = .ok (.iadd, 1) := by decide +kernel
theorem d_Model_willSet_71 : decode og_c_Model_willSet 71 = .ok (.aload_n 0, 1) := by decide +kernel
theorem d_Model_willSet_72 : decode og_c_Model_willSet 72 = .ok (.invokevirtual 557, 3) := by decide +kernel
theorem d_Model_willSet_75 : decode og_c_Model_willSet 75 = .ok (.iastore, 1) := by decide +kernel
theorem d_Model_willSet_76 : decode og_c_Model_willSet 76 = .ok (.aload_n 0, 1) := by decide +kernel
theorem d_Model_willSet_77 : decode og_c_Model_willSet 77 = .ok (.invokevirtual 468, 3) := by decide +kernel
theorem d_Model_willSet_80 : decode og_c_Model_willSet 80 = .ok (.iinc 5 1, 3) := by decide +kernel
theorem d_Model_willSet_83 : decode og_c_Model_willSet 83 = .ok (.goto (-51), 3) := by decide +kernel
theorem d_Model_willSet_86 : decode og_c_Model_willSet 86 = .ok (.aload_n 0, 1) := by decide +kernel
theorem d_Model_willSet_87 : decode og_c_Model_willSet 87 = .ok (.invokevirtual 471, 3) := by decide +kernel
theorem d_Model_willSet_90 : decode og_c_Model_willSet 90 = .ok (.iload 4, 2) := by decide +kernel
theorem d_Model_willSet_92 : decode og_c_Model_willSet 92 = .ok (.ifCond .eq 9, 3) := by decide +kernel
theorem d_Model_willSet_95 : decode og_c_Model_willSet 95 = .ok (.iload_n 2, 1) := by decide +kernel
theorem d_Model_willSet_96 : decode og_c_Model_willSet 96 = .ok (.iconst 1, 1) := by decide +kernel
theorem d_Model_willSet_97 : decode og_c_Model_willSet 97 = .ok (.iload_n 3, 1) := by decide +kernel
theorem d_Model_willSet_98 : decode og_c_Model_willSet 98 = .ok (.ishl, 1) := by decide +kernel
theorem d_Model_willSet_99 : decode og_c_Model_willSet 99 = .ok (.ior, 1) := by decide +kernel
theorem d_Model_willSet_100 : decode og_c_Model_willSet 100 = .ok (.istore_n 2, 1) := by decide +kernel
theorem d_Model_willSet_101 : decode og_c_Model_willSet 101 = .ok (.iinc 3 1, 3) := by decide +kernel
theorem d_Model_willSet_104 : decode og_c_Model_willSet 104 = .ok (.goto (-96), 3) := by decide +kernel
theorem d_Model_willSet_107 : decode og_c_Model_willSet 107 = .ok (.aload_n 0, 1) := by decide +kernel
theorem d_Model_willSet_108 : decode og_c_Model_willSet 108 = .ok (.invokevirtual 514, 3) := by decide +kernel
theorem d_Model_willSet_111 : decode og_c_Model_willSet 111 = .ok (.iload_n 2, 1) := by decide +kernel
theorem d_Model_willSet_112 : decode og_c_Model_willSet 112 = .ok (.ireturn, 1) := by decide +kernel
def m_Model_willSet : og_Dn := og_den [17, 0] 6 0 (og_seq (og_set 2 (og_k 0)) (og_seq (og_exp (og_call m_Model_putsAside [og_loc 0])) (og_cut (og_seq (og_set 3 (og_k 0)) (og_while (og_cc og_rle (og_loc 3) (og_k 9)) (og_seq (og_ast 204 (og_fix (fun _ => 1037) (og_loc 0)) (og_add (og_k 21) (og_mul (og_k 3) (og_loc 1))) (og_loc 3)) (og_seq (og_set 4 (og_k 1)) (og_cut (og_seq (og_set 5 (og_k 0)) (og_while (og_cc og_rle (og_loc 5) (og_k 30)) (og_seq (og_set 4 (og_ec (og_and (og_cb (og_loc 4)) (og_cb (og_call m_Model_isAsSeen [og_loc 0, og_loc 5]))))) (og_seq (og_ast 310 (og_fix (fun _ => 1046) (og_loc 0)) (og_add (og_mul (og_k 31) (og_loc 3)) (og_loc 5)) (og_call m_Model_fillSet [og_loc 0])) (og_exp (og_call m_Model_monthGoes [og_loc 0])))) (og_inc 5 1))) (og_seq (og_exp (og_call m_Model_triesAnew [og_loc 0])) (og_if (og_cb (og_loc 4)) (og_set 2 (og_bop og_oor (og_loc 2) (og_bop og_oshl (og_k 1) (og_loc 3)))) (og_skip)))))) (og_inc 3 1))) (og_seq (og_exp (og_call m_Model_takesBack [og_loc 0])) (og_ret (og_loc 2))))))
set_option maxRecDepth 20000 in
theorem ok_Model_willSet : og_MOK og_y_Model_willSet og_c_Model_willSet 6 0 9 [17, 0] m_Model_willSet := og_method (b := 0) (lt' := []) (by decide +kernel) (by decide) (by decide) (og_sseq (og_istore_n (i := 2) (lt' := [(0, 17), (1, 0), (2, 0)]) (og_iconst (by decide) d_Model_willSet_0) (by rfl) (by decide) (by decide) d_Model_willSet_1) (og_sseq (og_callVv (og_acons (og_aload_n (i := 0) (t := 15) (j := 0) (by rfl) (by rfl) d_Model_willSet_2) (og_anil)) ok_Model_putsAside (v_Model_putsAside (by decide)) og_w1780 d_Model_willSet_3) (og_scut (og_sdrop (lt' := [(0, 17), (1, 0), (2, 0), (3, 0)]) (lt2 := [(0, 17), (1, 0), (2, 0)]) (og_sseq (og_istore_n (i := 3) (lt' := [(0, 17), (1, 0), (2, 0), (3, 0)]) (og_iconst (by decide) d_Model_willSet_6) (by rfl) (by decide) (by decide) d_Model_willSet_7) (og_swhile (T := 14) (F := 107) (cp0 := 101) (og_ccn og_n_le (og_igt (tgt := 107) (og_iload_n (i := 3) (j := 3) (by rfl) (by rfl) d_Model_willSet_8) (og_bipush (by decide) d_Model_willSet_9) d_Model_willSet_11 (by decide))) (og_sdrop (lt' := [(0, 17), (1, 0), (2, 0), (3, 0), (4, 0)]) (lt2 := [(0, 17), (1, 0), (2, 0), (3, 0)]) (og_sseq (og_iastore (N := 204) (og_f_Model_now (og_aload_n (i := 0) (t := 15) (j := 0) (by rfl) (by rfl) d_Model_willSet_14) og_w1192 d_Model_willSet_15) (by rfl) (og_iadd (og_bipush (by decide) d_Model_willSet_18) (og_imul (og_iconst (by decide) d_Model_willSet_20) (og_iload_n (i := 1) (j := 1) (by rfl) (by rfl) d_Model_willSet_21) d_Model_willSet_22) d_Model_willSet_23) (og_iload_n (i := 3) (j := 3) (by rfl) (by rfl) d_Model_willSet_24) d_Model_willSet_25) (og_sseq (og_istore (i := 4) (lt' := [(0, 17), (1, 0), (2, 0), (3, 0), (4, 0)]) (og_iconst (by decide) d_Model_willSet_26) (by decide) (by decide) d_Model_willSet_27) (og_scut (og_sdrop (lt' := [(0, 17), (1, 0), (2, 0), (3, 0), (4, 0), (5, 0)]) (lt2 := [(0, 17), (1, 0), (2, 0), (3, 0), (4, 0)]) (og_sseq (og_istore (i := 5) (lt' := [(0, 17), (1, 0), (2, 0), (3, 0), (4, 0), (5, 0)]) (og_iconst (by decide) d_Model_willSet_29) (by decide) (by decide) d_Model_willSet_30) (og_swhile (T := 39) (F := 86) (cp0 := 80) (og_ccn og_n_le (og_igt (tgt := 86) (og_iload (i := 5) (j := 5) (by rfl) d_Model_willSet_32) (og_bipush (by decide) d_Model_willSet_34) d_Model_willSet_36 (by decide))) (og_sseq (og_istore (i := 4) (lt' := [(0, 17), (1, 0), (2, 0), (3, 0), (4, 0), (5, 0)]) (og_econd (b := 0) (og_cand (og_cbeq (tgt := 57) (og_iload (i := 4) (j := 4) (by rfl) d_Model_willSet_39) d_Model_willSet_41 (by decide)) (og_cbeq (tgt := 57) (og_callVz (og_acons (og_aload_n (i := 0) (t := 15) (j := 0) (by rfl) (by rfl) d_Model_willSet_44) (og_acons (og_iload (i := 5) (j := 5) (by rfl) d_Model_willSet_45) (og_anil))) (by decide) ok_Model_isAsSeen (v_Model_isAsSeen (by decide)) og_w1895 d_Model_willSet_47) d_Model_willSet_50 (by decide))) d_Model_willSet_53 d_Model_willSet_54 (by decide) d_Model_willSet_57 (by rfl)) (by decide) (by decide) d_Model_willSet_58) (og_sseq (og_iastore (N := 310) (og_f_Model_fillings (og_aload_n (i := 0) (t := 15) (j := 0) (by rfl) (by rfl) d_Model_willSet_60) og_w1206 d_Model_willSet_61) (by rfl) (og_iadd (og_imul (og_bipush (by decide) d_Model_willSet_64) (og_iload_n (i := 3) (j := 3) (by rfl) (by rfl) d_Model_willSet_66) d_Model_willSet_67) (og_iload (i := 5) (j := 5) (by rfl) d_Model_willSet_68) d_Model_willSet_70) (og_callVi (og_acons (og_aload_n (i := 0) (t := 15) (j := 0) (by rfl) (by rfl) d_Model_willSet_71) (og_anil)) (by decide) ok_Model_fillSet (v_Model_fillSet (by decide)) og_w1899 d_Model_willSet_72) d_Model_willSet_75) (og_callVv (og_acons (og_aload_n (i := 0) (t := 15) (j := 0) (by rfl) (by rfl) d_Model_willSet_76) (og_anil)) ok_Model_monthGoes (v_Model_monthGoes (by decide)) og_w1788 d_Model_willSet_77))) (og_gS (b' := 32) (og_iinc (j := 5) (lt' := [(0, 17), (1, 0), (2, 0), (3, 0), (4, 0), (5, 0)]) (by rfl) (by decide) (by decide) d_Model_willSet_80) d_Model_willSet_83 (by decide)))) (by decide)) (og_sseq (og_callVv (og_acons (og_aload_n (i := 0) (t := 15) (j := 0) (by rfl) (by rfl) d_Model_willSet_86) (og_anil)) ok_Model_triesAnew (v_Model_triesAnew (by decide)) og_w1812 d_Model_willSet_87) (og_sif (T := 95) (F := 101) (og_cbeq (tgt := 101) (og_iload (i := 4) (j := 4) (by rfl) d_Model_willSet_90) d_Model_willSet_92 (by decide)) (og_istore_n (i := 2) (lt' := [(0, 17), (1, 0), (2, 0), (3, 0), (4, 0)]) (og_ior (og_iload_n (i := 2) (j := 2) (by rfl) (by rfl) d_Model_willSet_95) (og_ishl (og_iconst (by decide) d_Model_willSet_96) (og_iload_n (i := 3) (j := 3) (by rfl) (by rfl) d_Model_willSet_97) d_Model_willSet_98) d_Model_willSet_99) (by rfl) (by decide) (by decide) d_Model_willSet_100) (og_sskip)))))) (by decide)) (og_gS (b' := 8) (og_iinc (j := 3) (lt' := [(0, 17), (1, 0), (2, 0), (3, 0)]) (by rfl) (by decide) (by decide) d_Model_willSet_101) d_Model_willSet_104 (by decide)))) (by decide)) (og_sseq (og_callVv (og_acons (og_aload_n (i := 0) (t := 15) (j := 0) (by rfl) (by rfl) d_Model_willSet_107) (og_anil)) ok_Model_takesBack (v_Model_takesBack (by decide)) og_w1808 d_Model_willSet_108) (og_sreti (og_iload_n (i := 2) (j := 2) (by rfl) (by rfl) d_Model_willSet_111) d_Model_willSet_112))))) (fun h => by cases h)
abbrev og_c_Model_wills : ByteArray := prog_14_method_89_code
abbrev og_y_Model_wills : MethodName := ⟨"OpenGravesModel", "wills", "(I)I"⟩
theorem v_Model_wills {own : String} {idx dep : Nat} (h : 10 + 1 ≤ dep) : og_sV own idx og_y_Model_wills og_c_Model_wills 2 0 10 dep 13 1 := ⟨⟨12, og_sl_Model, og_T_Model, 102, rfl, by decide, rfl⟩, og_w1888, og_w1889, og_w17, og_w1890, ⟨by decide +kernel, by decide +kernel, by decide +kernel⟩, h, by decide⟩
theorem d_Model_wills_0 : decode og_c_Model_wills 0 = .ok (.aload_n 0, 1) := by decide +kernel
theorem d_Model_wills_1 : decode og_c_Model_wills 1 = .ok (.iload_n 1, 1) := by decide +kernel
theorem d_Model_wills_2 : decode og_c_Model_wills 2 = .ok (.invokevirtual 500, 3) := by decide +kernel
theorem d_Model_wills_5 : decode og_c_Model_wills 5 = .ok (.ifCond .eq 11, 3) := by decide +kernel
theorem d_Model_wills_8 : decode og_c_Model_wills 8 = .ok (.aload_n 0, 1) := by decide +kernel
theorem d_Model_wills_9 : decode og_c_Model_wills 9 = .ok (.iload_n 1, 1) := by decide +kernel
theorem d_Model_wills_10 : decode og_c_Model_wills 10 = .ok (.invokevirtual 560, 3) := by decide +kernel
theorem d_Model_wills_13 : decode og_c_Model_wills 13 = .ok (.goto 4, 3) := by decide +kernel
theorem d_Model_wills_16 : decode og_c_Model_wills 16 = .ok (.iconst (-1), 1) := by decide +kernel
theorem d_Model_wills_17 : decode og_c_Model_wills 17 = .ok (.ireturn, 1) := by decide +kernel
def m_Model_wills : og_Dn := og_den [17, 0] 2 0 (og_ret (og_ei (og_cb (og_call m_Model_isLiving [og_loc 0, og_loc 1])) (og_call m_Model_willSet [og_loc 0, og_loc 1]) (og_k (-1))))
set_option maxRecDepth 20000 in
theorem ok_Model_wills : og_MOK og_y_Model_wills og_c_Model_wills 2 0 10 [17, 0] m_Model_wills := og_method (b := 0) (lt' := []) (by decide +kernel) (by decide) (by decide) (og_sreti (og_eite (og_cbeq (tgt := 16) (og_callVz (og_acons (og_aload_n (i := 0) (t := 15) (j := 0) (by rfl) (by rfl) d_Model_wills_0) (og_acons (og_iload_n (i := 1) (j := 1) (by rfl) (by rfl) d_Model_wills_1) (og_anil))) (by decide) ok_Model_isLiving (v_Model_isLiving (by decide)) og_w1755 d_Model_wills_2) d_Model_wills_5 (by decide)) (og_callVi (og_acons (og_aload_n (i := 0) (t := 15) (j := 0) (by rfl) (by rfl) d_Model_wills_8) (og_acons (og_iload_n (i := 1) (j := 1) (by rfl) (by rfl) d_Model_wills_9) (og_anil))) (by decide) ok_Model_willSet (v_Model_willSet (by decide)) og_w1891 d_Model_wills_10) d_Model_wills_13 (by decide) (og_iconst (by decide) d_Model_wills_16)) d_Model_wills_17) (fun h => by cases h)
abbrev og_c_Model_mostAlike : ByteArray := prog_14_method_90_code
abbrev og_y_Model_mostAlike : MethodName := ⟨"OpenGravesModel", "mostAlike", "(III)I"⟩
theorem v_Model_mostAlike {own : String} {idx dep : Nat} (h : 1 + 1 ≤ dep) : og_sV own idx og_y_Model_mostAlike og_c_Model_mostAlike 7 0 1 dep 13 3 := ⟨⟨12, og_sl_Model, og_T_Model, 102, rfl, by decide, rfl⟩, og_w1910, (og_memP (⟨"OpenGravesModel", "mostAlike", "(III)I"⟩, 102) (List.mem_of_getElem? (i := 135) (by decide +kernel))), og_w17, og_w1911, ⟨by decide +kernel, by decide +kernel, by decide +kernel⟩, h, by decide⟩
theorem d_Model_mostAlike_0 : decode og_c_Model_mostAlike 0 = .ok (.iconst 0, 1) := by decide +kernel
theorem d_Model_mostAlike_1 : decode og_c_Model_mostAlike 1 = .ok (.istore 4, 2) := by decide +kernel
theorem d_Model_mostAlike_3 : decode og_c_Model_mostAlike 3 = .ok (.iconst 0, 1) := by decide +kernel
theorem d_Model_mostAlike_4 : decode og_c_Model_mostAlike 4 = .ok (.istore 5, 2) := by decide +kernel
theorem d_Model_mostAlike_6 : decode og_c_Model_mostAlike 6 = .ok (.iconst 0, 1) := by decide +kernel
theorem d_Model_mostAlike_7 : decode og_c_Model_mostAlike 7 = .ok (.istore 6, 2) := by decide +kernel
theorem d_Model_mostAlike_9 : decode og_c_Model_mostAlike 9 = .ok (.iload 6, 2) := by decide +kernel
theorem d_Model_mostAlike_11 : decode og_c_Model_mostAlike 11 = .ok (.bipush 9, 2) := by decide +kernel
theorem d_Model_mostAlike_13 : decode og_c_Model_mostAlike 13 = .ok (.if_icmp .gt 47, 3) := by decide +kernel
theorem d_Model_mostAlike_16 : decode og_c_Model_mostAlike 16 = .ok (.iload_n 1, 1) := by decide +kernel
theorem d_Model_mostAlike_17 : decode og_c_Model_mostAlike 17 = .ok (.iload 6, 2) := by decide +kernel
theorem d_Model_mostAlike_19 : decode og_c_Model_mostAlike 19 = .ok (.ishr, 1) := by decide +kernel
theorem d_Model_mostAlike_20 : decode og_c_Model_mostAlike 20 = .ok (.iconst 1, 1) := by decide +kernel
theorem d_Model_mostAlike_21 : decode og_c_Model_mostAlike 21 = .ok (.iand, 1) := by decide +kernel
theorem d_Model_mostAlike_22 : decode og_c_Model_mostAlike 22 = .ok (.ifCond .ne 6, 3) := by decide +kernel
theorem d_Model_mostAlike_25 : decode og_c_Model_mostAlike 25 = .ok (.goto 29, 3) := by decide +kernel
theorem d_Model_mostAlike_28 : decode og_c_Model_mostAlike 28 = .ok (.iinc 5 1, 3) := by decide +kernel
theorem d_Model_mostAlike_31 : decode og_c_Model_mostAlike 31 = .ok (.aload_n 0, 1) := by decide +kernel
theorem d_Model_mostAlike_32 : decode og_c_Model_mostAlike 32 = .ok (.getfield 151, 3) := by decide +kernel
theorem d_Model_mostAlike_35 : decode og_c_Model_mostAlike 35 = .ok (.bipush 31, 2) := by decide +kernel
theorem d_Model_mostAlike_37 : decode og_c_Model_mostAlike 37 = .ok (.iload 6, 2) := by decide +kernel
theorem d_Model_mostAlike_39 : decode og_c_Model_mostAlike 39 = .ok (.imul, 1) := by decide +kernel
theorem d_Model_mostAlike_40 : decode og_c_Model_mostAlike 40 = .ok (.iload_n 2, 1) := by decide +kernel
theorem d_Model_mostAlike_41 : decode og_c_Model_mostAlike 41 = .ok (.iadd, 1) := by decide +kernel
theorem d_Model_mostAlike_42 : decode og_c_Model_mostAlike 42 = .ok (.iaload, 1) := by decide +kernel
theorem d_Model_mostAlike_43 : decode og_c_Model_mostAlike 43 = .ok (.iload_n 3, 1) := by decide +kernel
theorem d_Model_mostAlike_44 : decode og_c_Model_mostAlike 44 = .ok (.ishr, 1) := by decide +kernel
theorem d_Model_mostAlike_45 : decode og_c_Model_mostAlike 45 = .ok (.iconst 1, 1) := by decide +kernel
theorem d_Model_mostAlike_46 : decode og_c_Model_mostAlike 46 = .ok (.iand, 1) := by decide +kernel
theorem d_Model_mostAlike_47 : decode og_c_Model_mostAlike 47 = .ok (.iconst 1, 1) := by decide +kernel
theorem d_Model_mostAlike_48 : decode og_c_Model_mostAlike 48 = .ok (.if_icmp .ne 6, 3) := by decide +kernel
theorem d_Model_mostAlike_51 : decode og_c_Model_mostAlike 51 = .ok (.iinc 4 1, 3) := by decide +kernel
theorem d_Model_mostAlike_54 : decode og_c_Model_mostAlike 54 = .ok (.iinc 6 1, 3) := by decide +kernel
theorem d_Model_mostAlike_57 : decode og_c_Model_mostAlike 57 = .ok (.goto (-48), 3) := by decide +kernel
theorem d_Model_mostAlike_60 : decode og_c_Model_mostAlike 60 = .ok (.iload 4, 2) := by decide +kernel
theorem d_Model_mostAlike_62 : decode og_c_Model_mostAlike 62 = .ok (.iload 5, 2) := by decide +kernel
theorem d_Model_mostAlike_64 : decode og_c_Model_mostAlike 64 = .ok (.iload 4, 2) := by decide +kernel
theorem d_Model_mostAlike_66 : decode og_c_Model_mostAlike 66 = .ok (.isub, 1) := by decide +kernel
theorem d_Model_mostAlike_67 : decode og_c_Model_mostAlike 67 = .ok (.if_icmp .le 8, 3) := by decide +kernel
theorem d_Model_mostAlike_70 : decode og_c_Model_mostAlike 70 = .ok (.iload 4, 2) := by decide +kernel
theorem d_Model_mostAlike_72 : decode og_c_Model_mostAlike 72 = .ok (.goto 8, 3) := by decide +kernel
theorem d_Model_mostAlike_75 : decode og_c_Model_mostAlike 75 = .ok (.iload 5, 2) := by decide +kernel
theorem d_Model_mostAlike_77 : decode og_c_Model_mostAlike 77 = .ok (.iload 4, 2) := by decide +kernel
theorem d_Model_mostAlike_79 : decode og_c_Model_mostAlike 79 = .ok (.isub, 1) := by decide +kernel
theorem d_Model_mostAlike_80 : decode og_c_Model_mostAlike 80 = .ok (.ireturn, 1) := by decide +kernel
def m_Model_mostAlike : og_Dn := og_den [17, 0, 0, 0] 7 0 (og_seq (og_set 4 (og_k 0)) (og_seq (og_set 5 (og_k 0)) (og_cut (og_seq (og_set 6 (og_k 0)) (og_while (og_cc og_rle (og_loc 6) (og_k 9)) (og_seq (og_if (og_cc og_req (og_bop og_oand (og_bop og_oshr (og_loc 1) (og_loc 6)) (og_k 1)) (og_k 0)) (og_cont) (og_skip)) (og_seq (og_inc 5 1) (og_if (og_cc og_req (og_bop og_oand (og_bop og_oshr (og_ald 310 (og_fix (fun _ => 1046) (og_loc 0)) (og_add (og_mul (og_k 31) (og_loc 6)) (og_loc 2))) (og_loc 3)) (og_k 1)) (og_k 1)) (og_inc 4 1) (og_skip)))) (og_inc 6 1))) (og_ret (og_ei (og_cc og_rgt (og_loc 4) (og_sub (og_loc 5) (og_loc 4))) (og_loc 4) (og_sub (og_loc 5) (og_loc 4)))))))
set_option maxRecDepth 20000 in
theorem ok_Model_mostAlike : og_MOK og_y_Model_mostAlike og_c_Model_mostAlike 7 0 1 [17, 0, 0, 0] m_Model_mostAlike := og_method (b := 0) (lt' := []) (by decide +kernel) (by decide) (by decide) (og_sseq (og_istore (i := 4) (lt' := [(0, 17), (1, 0), (2, 0), (3, 0), (4, 0)]) (og_iconst (by decide) d_Model_mostAlike_0) (by decide) (by decide) d_Model_mostAlike_1) (og_sseq (og_istore (i := 5) (lt' := [(0, 17), (1, 0), (2, 0), (3, 0), (4, 0), (5, 0)]) (og_iconst (by decide) d_Model_mostAlike_3) (by decide) (by decide) d_Model_mostAlike_4) (og_scut (og_sdrop (lt' := [(0, 17), (1, 0), (2, 0), (3, 0), (4, 0), (5, 0), (6, 0)]) (lt2 := [(0, 17), (1, 0), (2, 0), (3, 0), (4, 0), (5, 0)]) (og_sseq (og_istore (i := 6) (lt' := [(0, 17), (1, 0), (2, 0), (3, 0), (4, 0), (5, 0), (6, 0)]) (og_iconst (by decide) d_Model_mostAlike_6) (by decide) (by decide) d_Model_mostAlike_7) (og_swhile (T := 16) (F := 60) (cp0 := 54) (og_ccn og_n_le (og_igt (tgt := 60) (og_iload (i := 6) (j := 6) (by rfl) d_Model_mostAlike_9) (og_bipush (by decide) d_Model_mostAlike_11) d_Model_mostAlike_13 (by decide))) (og_sseq (og_sif (T := 54) (F := 28) (og_gT (T' := 54) (og_ccn og_n_eq (og_zne (tgt := 28) (og_iand (og_ishr (og_iload_n (i := 1) (j := 1) (by rfl) (by rfl) d_Model_mostAlike_16) (og_iload (i := 6) (j := 6) (by rfl) d_Model_mostAlike_17) d_Model_mostAlike_19) (og_iconst (by decide) d_Model_mostAlike_20) d_Model_mostAlike_21) d_Model_mostAlike_22 (by decide))) d_Model_mostAlike_25 (by decide)) (og_scont (by decide)) (og_sskip)) (og_sseq (og_iinc (j := 5) (lt' := [(0, 17), (1, 0), (2, 0), (3, 0), (4, 0), (5, 0), (6, 0)]) (by rfl) (by decide) (by decide) d_Model_mostAlike_28) (og_sif (T := 51) (F := 54) (og_ccn og_n_eq (og_ine (tgt := 54) (og_iand (og_ishr (og_iald (N := 310) (og_f_Model_fillings (og_aload_n (i := 0) (t := 15) (j := 0) (by rfl) (by rfl) d_Model_mostAlike_31) og_w1206 d_Model_mostAlike_32) (by rfl) (og_iadd (og_imul (og_bipush (by decide) d_Model_mostAlike_35) (og_iload (i := 6) (j := 6) (by rfl) d_Model_mostAlike_37) d_Model_mostAlike_39) (og_iload_n (i := 2) (j := 2) (by rfl) (by rfl) d_Model_mostAlike_40) d_Model_mostAlike_41) d_Model_mostAlike_42) (og_iload_n (i := 3) (j := 3) (by rfl) (by rfl) d_Model_mostAlike_43) d_Model_mostAlike_44) (og_iconst (by decide) d_Model_mostAlike_45) d_Model_mostAlike_46) (og_iconst (by decide) d_Model_mostAlike_47) d_Model_mostAlike_48 (by decide))) (og_iinc (j := 4) (lt' := [(0, 17), (1, 0), (2, 0), (3, 0), (4, 0), (5, 0), (6, 0)]) (by rfl) (by decide) (by decide) d_Model_mostAlike_51) (og_sskip)))) (og_gS (b' := 9) (og_iinc (j := 6) (lt' := [(0, 17), (1, 0), (2, 0), (3, 0), (4, 0), (5, 0), (6, 0)]) (by rfl) (by decide) (by decide) d_Model_mostAlike_54) d_Model_mostAlike_57 (by decide)))) (by decide)) (og_sreti (og_eite (og_ccn og_n_gt (og_ile (tgt := 75) (og_iload (i := 4) (j := 4) (by rfl) d_Model_mostAlike_60) (og_isub (og_iload (i := 5) (j := 5) (by rfl) d_Model_mostAlike_62) (og_iload (i := 4) (j := 4) (by rfl) d_Model_mostAlike_64) d_Model_mostAlike_66) d_Model_mostAlike_67 (by decide))) (og_iload (i := 4) (j := 4) (by rfl) d_Model_mostAlike_70) d_Model_mostAlike_72 (by decide) (og_isub (og_iload (i := 5) (j := 5) (by rfl) d_Model_mostAlike_75) (og_iload (i := 4) (j := 4) (by rfl) d_Model_mostAlike_77) d_Model_mostAlike_79)) d_Model_mostAlike_80)))) (fun h => by cases h)
abbrev og_c_Model_tells : ByteArray := prog_14_method_91_code
abbrev og_y_Model_tells : MethodName := ⟨"OpenGravesModel", "tells", "(II)I"⟩
theorem v_Model_tells {own : String} {idx dep : Nat} (h : 10 + 1 ≤ dep) : og_sV own idx og_y_Model_tells og_c_Model_tells 10 0 10 dep 13 2 := ⟨⟨12, og_sl_Model, og_T_Model, 102, rfl, by decide, rfl⟩, og_w1904, og_w1905, og_w17, og_w1906, ⟨by decide +kernel, by decide +kernel, by decide +kernel⟩, h, by decide⟩
theorem d_Model_tells_0 : decode og_c_Model_tells 0 = .ok (.aload_n 0, 1) := by decide +kernel
theorem d_Model_tells_1 : decode og_c_Model_tells 1 = .ok (.iload_n 1, 1) := by decide +kernel
theorem d_Model_tells_2 : decode og_c_Model_tells 2 = .ok (.invokevirtual 500, 3) := by decide +kernel
theorem d_Model_tells_5 : decode og_c_Model_tells 5 = .ok (.ifCond .eq 15, 3) := by decide +kernel
theorem d_Model_tells_8 : decode og_c_Model_tells 8 = .ok (.iload_n 2, 1) := by decide +kernel
theorem d_Model_tells_9 : decode og_c_Model_tells 9 = .ok (.i2l, 1) := by decide +kernel
theorem d_Model_tells_10 : decode og_c_Model_tells 10 = .ok (.lconst 0, 1) := by decide +kernel
theorem d_Model_tells_11 : decode og_c_Model_tells 11 = .ok (.ldc2_w 563, 3) := by decide +kernel
theorem d_Model_tells_14 : decode og_c_Model_tells 14 = .ok (.invokestatic 285, 3) := by decide +kernel
theorem d_Model_tells_17 : decode og_c_Model_tells 17 = .ok (.ifCond .ne 5, 3) := by decide +kernel
theorem d_Model_tells_20 : decode og_c_Model_tells 20 = .ok (.iconst (-1), 1) := by decide +kernel
theorem d_Model_tells_21 : decode og_c_Model_tells 21 = .ok (.ireturn, 1) := by decide +kernel
theorem d_Model_tells_22 : decode og_c_Model_tells 22 = .ok (.aload_n 0, 1) := by decide +kernel
theorem d_Model_tells_23 : decode og_c_Model_tells 23 = .ok (.iload_n 1, 1) := by decide +kernel
theorem d_Model_tells_24 : decode og_c_Model_tells 24 = .ok (.invokevirtual 560, 3) := by decide +kernel
theorem d_Model_tells_27 : decode og_c_Model_tells 27 = .ok (.istore_n 3, 1) := by decide +kernel
theorem d_Model_tells_28 : decode og_c_Model_tells 28 = .ok (.iconst (-1), 1) := by decide +kernel
theorem d_Model_tells_29 : decode og_c_Model_tells 29 = .ok (.istore 4, 2) := by decide +kernel
theorem d_Model_tells_31 : decode og_c_Model_tells 31 = .ok (.iconst (-1), 1) := by decide +kernel
theorem d_Model_tells_32 : decode og_c_Model_tells 32 = .ok (.istore 5, 2) := by decide +kernel
theorem d_Model_tells_34 : decode og_c_Model_tells 34 = .ok (.iconst 0, 1) := by decide +kernel
theorem d_Model_tells_35 : decode og_c_Model_tells 35 = .ok (.istore 6, 2) := by decide +kernel
theorem d_Model_tells_37 : decode og_c_Model_tells 37 = .ok (.iconst 1, 1) := by decide +kernel
theorem d_Model_tells_38 : decode og_c_Model_tells 38 = .ok (.istore 7, 2) := by decide +kernel
theorem d_Model_tells_40 : decode og_c_Model_tells 40 = .ok (.iload_n 3, 1) := by decide +kernel
theorem d_Model_tells_41 : decode og_c_Model_tells 41 = .ok (.ifCond .eq 78, 3) := by decide +kernel
theorem d_Model_tells_44 : decode og_c_Model_tells 44 = .ok (.aload_n 0, 1) := by decide +kernel
theorem d_Model_tells_45 : decode og_c_Model_tells 45 = .ok (.iload 7, 2) := by decide +kernel
theorem d_Model_tells_47 : decode og_c_Model_tells 47 = .ok (.iconst 1, 1) := by decide +kernel
theorem d_Model_tells_48 : decode og_c_Model_tells 48 = .ok (.bipush 30, 2) := by decide +kernel
theorem d_Model_tells_50 : decode og_c_Model_tells 50 = .ok (.invokevirtual 505, 3) := by decide +kernel
theorem d_Model_tells_53 : decode og_c_Model_tells 53 = .ok (.ifCond .eq 66, 3) := by decide +kernel
theorem d_Model_tells_56 : decode og_c_Model_tells 56 = .ok (.iconst 0, 1) := by decide +kernel
theorem d_Model_tells_57 : decode og_c_Model_tells 57 = .ok (.istore 8, 2) := by decide +kernel
theorem d_Model_tells_59 : decode og_c_Model_tells 59 = .ok (.iload 8, 2) := by decide +kernel
theorem d_Model_tells_61 : decode og_c_Model_tells 61 = .ok (.aload_n 0, 1) := by decide +kernel
theorem d_Model_tells_62 : decode og_c_Model_tells 62 = .ok (.invokevirtual 378, 3) := by decide +kernel
theorem d_Model_tells_65 : decode og_c_Model_tells 65 = .ok (.if_icmp .ge 48, 3) := by decide +kernel
theorem d_Model_tells_68 : decode og_c_Model_tells 68 = .ok (.aload_n 0, 1) := by decide +kernel
theorem d_Model_tells_69 : decode og_c_Model_tells 69 = .ok (.iload_n 3, 1) := by decide +kernel
theorem d_Model_tells_70 : decode og_c_Model_tells 70 = .ok (.iload 7, 2) := by decide +kernel
theorem d_Model_tells_72 : decode og_c_Model_tells 72 = .ok (.iload 8, 2) := by decide +kernel
theorem d_Model_tells_74 : decode og_c_Model_tells 74 = .ok (.invokevirtual 565, 3) := by decide +kernel
theorem d_Model_tells_77 : decode og_c_Model_tells 77 = .ok (.istore 9, 2) := by decide +kernel
theorem d_Model_tells_79 : decode og_c_Model_tells 79 = .ok (.iload 4, 2) := by decide +kernel
theorem d_Model_tells_81 : decode og_c_Model_tells 81 = .ok (.iconst (-1), 1) := by decide +kernel
theorem d_Model_tells_82 : decode og_c_Model_tells 82 = .ok (.if_icmp .eq 13, 3) := by decide +kernel
theorem d_Model_tells_85 : decode og_c_Model_tells 85 = .ok (.iload 9, 2) := by decide +kernel
theorem d_Model_tells_87 : decode og_c_Model_tells 87 = .ok (.iload 6, 2) := by decide +kernel
theorem d_Model_tells_89 : decode og_c_Model_tells 89 = .ok (.if_icmp .lt 6, 3) := by decide +kernel
theorem d_Model_tells_92 : decode og_c_Model_tells 92 = .ok (.goto 15, 3) := by decide +kernel
theorem d_Model_tells_95 : decode og_c_Model_tells 95 = .ok (.iload 7, 2) := by decide +kernel
theorem d_Model_tells_97 : decode og_c_Model_tells 97 = .ok (.istore 4, 2) := by decide +kernel
theorem d_Model_tells_99 : decode og_c_Model_tells 99 = .ok (.iload 8, 2) := by decide +kernel
theorem d_Model_tells_101 : decode og_c_Model_tells 101 = .ok (.istore 5, 2) := by decide +kernel
theorem d_Model_tells_103 : decode og_c_Model_tells 103 = .ok (.iload 9, 2) := by decide +kernel
theorem d_Model_tells_105 : decode og_c_Model_tells 105 = .ok (.istore 6, 2) := by decide +kernel
theorem d_Model_tells_107 : decode og_c_Model_tells 107 = .ok (.iinc 8 1, 3) := by decide +kernel
theorem d_Model_tells_110 : decode og_c_Model_tells 110 = .ok (.goto (-51), 3) := by decide +kernel
theorem d_Model_tells_113 : decode og_c_Model_tells 113 = .ok (.iinc 7 1, 3) := by decide +kernel
theorem d_Model_tells_116 : decode og_c_Model_tells 116 = .ok (.goto (-76), 3) := by decide +kernel
theorem d_Model_tells_119 : decode og_c_Model_tells 119 = .ok (.iload 4, 2) := by decide +kernel
theorem d_Model_tells_121 : decode og_c_Model_tells 121 = .ok (.iconst (-1), 1) := by decide +kernel
theorem d_Model_tells_122 : decode og_c_Model_tells 122 = .ok (.if_icmp .ne 7, 3) := by decide +kernel
theorem d_Model_tells_125 : decode og_c_Model_tells 125 = .ok (.iconst (-1), 1) := by decide +kernel
theorem d_Model_tells_126 : decode og_c_Model_tells 126 = .ok (.goto 24, 3) := by decide +kernel
theorem d_Model_tells_129 : decode og_c_Model_tells 129 = .ok (.iload_n 2, 1) := by decide +kernel
theorem d_Model_tells_130 : decode og_c_Model_tells 130 = .ok (.ifCond .ne 8, 3) := by decide +kernel
theorem d_Model_tells_133 : decode og_c_Model_tells 133 = .ok (.iload 4, 2) := by decide +kernel
theorem d_Model_tells_135 : decode og_c_Model_tells 135 = .ok (.goto 15, 3) := by decide +kernel
theorem d_Model_tells_138 : decode og_c_Model_tells 138 = .ok (.iload_n 2, 1) := by decide +kernel
theorem d_Model_tells_139 : decode og_c_Model_tells 139 = .ok (.iconst 1, 1) := by decide +kernel
theorem d_Model_tells_140 : decode og_c_Model_tells 140 = .ok (.if_icmp .ne 8, 3) := by decide +kernel
theorem d_Model_tells_143 : decode og_c_Model_tells 143 = .ok (.iload 5, 2) := by decide +kernel
theorem d_Model_tells_145 : decode og_c_Model_tells 145 = .ok (.goto 5, 3) := by decide +kernel
theorem d_Model_tells_148 : decode og_c_Model_tells 148 = .ok (.iload 6, 2) := by decide +kernel
theorem d_Model_tells_150 : decode og_c_Model_tells 150 = .ok (.ireturn, 1) := by decide +kernel
def m_Model_tells : og_Dn := og_den [17, 0, 0] 10 0 (og_seq (og_if (og_or (og_not (og_cb (og_call m_Model_isLiving [og_loc 0, og_loc 1]))) (og_not (og_cb (og_call m_Model_isIn [og_i2l (og_loc 2), og_k 0, og_k 2])))) (og_ret (og_k (-1))) (og_skip)) (og_seq (og_set 3 (og_call m_Model_willSet [og_loc 0, og_loc 1])) (og_seq (og_set 4 (og_k (-1))) (og_seq (og_set 5 (og_k (-1))) (og_seq (og_set 6 (og_k 0)) (og_cut (og_seq (og_set 7 (og_k 1)) (og_while (og_and (og_cc og_rne (og_loc 3) (og_k 0)) (og_cb (og_call m_Model_isAhead [og_loc 0, og_loc 7, og_k 1, og_k 30]))) (og_seq (og_set 8 (og_k 0)) (og_while (og_cc og_rlt (og_loc 8) (og_call m_Model_graveMany [og_loc 0])) (og_seq (og_set 9 (og_call m_Model_mostAlike [og_loc 0, og_loc 3, og_loc 7, og_loc 8])) (og_seq (og_if (og_and (og_cc og_rne (og_loc 4) (og_k (-1))) (og_cc og_rge (og_loc 9) (og_loc 6))) (og_cont) (og_skip)) (og_seq (og_set 4 (og_loc 7)) (og_seq (og_set 5 (og_loc 8)) (og_set 6 (og_loc 9)))))) (og_inc 8 1))) (og_inc 7 1))) (og_ret (og_ei (og_cc og_req (og_loc 4) (og_k (-1))) (og_k (-1)) (og_ei (og_cc og_req (og_loc 2) (og_k 0)) (og_loc 4) (og_ei (og_cc og_req (og_loc 2) (og_k 1)) (og_loc 5) (og_loc 6)))))))))))
set_option maxRecDepth 20000 in
theorem ok_Model_tells : og_MOK og_y_Model_tells og_c_Model_tells 10 0 10 [17, 0, 0] m_Model_tells := og_method (b := 0) (lt' := []) (by decide +kernel) (by decide) (by decide) (og_sseq (og_sif (T := 20) (F := 22) (og_cor (og_cnot (og_cbeq (tgt := 20) (og_callVz (og_acons (og_aload_n (i := 0) (t := 15) (j := 0) (by rfl) (by rfl) d_Model_tells_0) (og_acons (og_iload_n (i := 1) (j := 1) (by rfl) (by rfl) d_Model_tells_1) (og_anil))) (by decide) ok_Model_isLiving (v_Model_isLiving (by decide)) og_w1755 d_Model_tells_2) d_Model_tells_5 (by decide))) (og_cnot (og_cbne (tgt := 22) (og_callSz (og_acons (og_i2l_ (og_iload_n (i := 2) (j := 2) (by rfl) (by rfl) d_Model_tells_8) d_Model_tells_9) (og_acons (og_lconst (x := 0) d_Model_tells_10) (og_acons (og_ldc2 (x := 2) (by decide) og_w1907 d_Model_tells_11) (og_anil)))) (by decide) ok_Model_isIn (v_Model_isIn (by decide)) og_w1520 d_Model_tells_14) d_Model_tells_17 (by decide)))) (og_sreti (og_iconst (by decide) d_Model_tells_20) d_Model_tells_21) (og_sskip)) (og_sseq (og_istore_n (i := 3) (lt' := [(0, 17), (1, 0), (2, 0), (3, 0)]) (og_callVi (og_acons (og_aload_n (i := 0) (t := 15) (j := 0) (by rfl) (by rfl) d_Model_tells_22) (og_acons (og_iload_n (i := 1) (j := 1) (by rfl) (by rfl) d_Model_tells_23) (og_anil))) (by decide) ok_Model_willSet (v_Model_willSet (by decide)) og_w1891 d_Model_tells_24) (by rfl) (by decide) (by decide) d_Model_tells_27) (og_sseq (og_istore (i := 4) (lt' := [(0, 17), (1, 0), (2, 0), (3, 0), (4, 0)]) (og_iconst (by decide) d_Model_tells_28) (by decide) (by decide) d_Model_tells_29) (og_sseq (og_istore (i := 5) (lt' := [(0, 17), (1, 0), (2, 0), (3, 0), (4, 0), (5, 0)]) (og_iconst (by decide) d_Model_tells_31) (by decide) (by decide) d_Model_tells_32) (og_sseq (og_istore (i := 6) (lt' := [(0, 17), (1, 0), (2, 0), (3, 0), (4, 0), (5, 0), (6, 0)]) (og_iconst (by decide) d_Model_tells_34) (by decide) (by decide) d_Model_tells_35) (og_scut (og_sdrop (lt' := [(0, 17), (1, 0), (2, 0), (3, 0), (4, 0), (5, 0), (6, 0), (7, 0)]) (lt2 := [(0, 17), (1, 0), (2, 0), (3, 0), (4, 0), (5, 0), (6, 0)]) (og_sseq (og_istore (i := 7) (lt' := [(0, 17), (1, 0), (2, 0), (3, 0), (4, 0), (5, 0), (6, 0), (7, 0)]) (og_iconst (by decide) d_Model_tells_37) (by decide) (by decide) d_Model_tells_38) (og_swhile (T := 56) (F := 119) (cp0 := 113) (og_cand (og_ccn og_n_ne (og_zeq (tgt := 119) (og_iload_n (i := 3) (j := 3) (by rfl) (by rfl) d_Model_tells_40) d_Model_tells_41 (by decide))) (og_cbeq (tgt := 119) (og_callVz (og_acons (og_aload_n (i := 0) (t := 15) (j := 0) (by rfl) (by rfl) d_Model_tells_44) (og_acons (og_iload (i := 7) (j := 7) (by rfl) d_Model_tells_45) (og_acons (og_iconst (by decide) d_Model_tells_47) (og_acons (og_bipush (by decide) d_Model_tells_48) (og_anil))))) (by decide) ok_Model_isAhead (v_Model_isAhead (by decide)) og_w1776 d_Model_tells_50) d_Model_tells_53 (by decide))) (og_sdrop (lt' := [(0, 17), (1, 0), (2, 0), (3, 0), (4, 0), (5, 0), (6, 0), (7, 0), (8, 0)]) (lt2 := [(0, 17), (1, 0), (2, 0), (3, 0), (4, 0), (5, 0), (6, 0), (7, 0)]) (og_sseq (og_istore (i := 8) (lt' := [(0, 17), (1, 0), (2, 0), (3, 0), (4, 0), (5, 0), (6, 0), (7, 0), (8, 0)]) (og_iconst (by decide) d_Model_tells_56) (by decide) (by decide) d_Model_tells_57) (og_swhile (T := 68) (F := 113) (cp0 := 107) (og_ccn og_n_lt (og_ige (tgt := 113) (og_iload (i := 8) (j := 8) (by rfl) d_Model_tells_59) (og_callVi (og_acons (og_aload_n (i := 0) (t := 15) (j := 0) (by rfl) (by rfl) d_Model_tells_61) (og_anil)) (by decide) ok_Model_graveMany (v_Model_graveMany (by decide)) og_w1649 d_Model_tells_62) d_Model_tells_65 (by decide))) (og_sdrop (lt' := [(0, 17), (1, 0), (2, 0), (3, 0), (4, 0), (5, 0), (6, 0), (7, 0), (8, 0), (9, 0)]) (lt2 := [(0, 17), (1, 0), (2, 0), (3, 0), (4, 0), (5, 0), (6, 0), (7, 0), (8, 0)]) (og_sseq (og_istore (i := 9) (lt' := [(0, 17), (1, 0), (2, 0), (3, 0), (4, 0), (5, 0), (6, 0), (7, 0), (8, 0), (9, 0)]) (og_callVi (og_acons (og_aload_n (i := 0) (t := 15) (j := 0) (by rfl) (by rfl) d_Model_tells_68) (og_acons (og_iload_n (i := 3) (j := 3) (by rfl) (by rfl) d_Model_tells_69) (og_acons (og_iload (i := 7) (j := 7) (by rfl) d_Model_tells_70) (og_acons (og_iload (i := 8) (j := 8) (by rfl) d_Model_tells_72) (og_anil))))) (by decide) ok_Model_mostAlike (v_Model_mostAlike (by decide)) og_w1908 d_Model_tells_74) (by decide) (by decide) d_Model_tells_77) (og_sseq (og_sif (T := 107) (F := 95) (og_cand (og_ccn og_n_ne (og_ieq (tgt := 95) (og_iload (i := 4) (j := 4) (by rfl) d_Model_tells_79) (og_iconst (by decide) d_Model_tells_81) d_Model_tells_82 (by decide))) (og_gT (T' := 107) (og_ccn og_n_ge (og_ilt (tgt := 95) (og_iload (i := 9) (j := 9) (by rfl) d_Model_tells_85) (og_iload (i := 6) (j := 6) (by rfl) d_Model_tells_87) d_Model_tells_89 (by decide))) d_Model_tells_92 (by decide))) (og_scont (by decide)) (og_sskip)) (og_sseq (og_istore (i := 4) (lt' := [(0, 17), (1, 0), (2, 0), (3, 0), (4, 0), (5, 0), (6, 0), (7, 0), (8, 0), (9, 0)]) (og_iload (i := 7) (j := 7) (by rfl) d_Model_tells_95) (by decide) (by decide) d_Model_tells_97) (og_sseq (og_istore (i := 5) (lt' := [(0, 17), (1, 0), (2, 0), (3, 0), (4, 0), (5, 0), (6, 0), (7, 0), (8, 0), (9, 0)]) (og_iload (i := 8) (j := 8) (by rfl) d_Model_tells_99) (by decide) (by decide) d_Model_tells_101) (og_istore (i := 6) (lt' := [(0, 17), (1, 0), (2, 0), (3, 0), (4, 0), (5, 0), (6, 0), (7, 0), (8, 0), (9, 0)]) (og_iload (i := 9) (j := 9) (by rfl) d_Model_tells_103) (by decide) (by decide) d_Model_tells_105))))) (by decide)) (og_gS (b' := 59) (og_iinc (j := 8) (lt' := [(0, 17), (1, 0), (2, 0), (3, 0), (4, 0), (5, 0), (6, 0), (7, 0), (8, 0)]) (by rfl) (by decide) (by decide) d_Model_tells_107) d_Model_tells_110 (by decide)))) (by decide)) (og_gS (b' := 40) (og_iinc (j := 7) (lt' := [(0, 17), (1, 0), (2, 0), (3, 0), (4, 0), (5, 0), (6, 0), (7, 0)]) (by rfl) (by decide) (by decide) d_Model_tells_113) d_Model_tells_116 (by decide)))) (by decide)) (og_sreti (og_eite (og_ccn og_n_eq (og_ine (tgt := 129) (og_iload (i := 4) (j := 4) (by rfl) d_Model_tells_119) (og_iconst (by decide) d_Model_tells_121) d_Model_tells_122 (by decide))) (og_iconst (by decide) d_Model_tells_125) d_Model_tells_126 (by decide) (og_eite (og_ccn og_n_eq (og_zne (tgt := 138) (og_iload_n (i := 2) (j := 2) (by rfl) (by rfl) d_Model_tells_129) d_Model_tells_130 (by decide))) (og_iload (i := 4) (j := 4) (by rfl) d_Model_tells_133) d_Model_tells_135 (by decide) (og_eite (og_ccn og_n_eq (og_ine (tgt := 148) (og_iload_n (i := 2) (j := 2) (by rfl) (by rfl) d_Model_tells_138) (og_iconst (by decide) d_Model_tells_139) d_Model_tells_140 (by decide))) (og_iload (i := 5) (j := 5) (by rfl) d_Model_tells_143) d_Model_tells_145 (by decide) (og_iload (i := 6) (j := 6) (by rfl) d_Model_tells_148)))) d_Model_tells_150))))))) (fun h => by cases h)
abbrev og_c_Model_keeps : ByteArray := prog_14_method_92_code
abbrev og_y_Model_keeps : MethodName := ⟨"OpenGravesModel", "keeps", "()V"⟩
theorem v_Model_keeps {own : String} {idx dep : Nat} (h : 1 + 1 ≤ dep) : og_sV own idx og_y_Model_keeps og_c_Model_keeps 2 2 1 dep 13 0 := ⟨⟨12, og_sl_Model, og_T_Model, 102, rfl, by decide, rfl⟩, og_w1922, (og_memP (⟨"OpenGravesModel", "keeps", "()V"⟩, 102) (List.mem_of_getElem? (i := 136) (by decide +kernel))), og_w17, og_w1923, ⟨by decide +kernel, by decide +kernel, by decide +kernel⟩, h, by decide⟩
theorem d_Model_keeps_0 : decode og_c_Model_keeps 0 = .ok (.aload_n 0, 1) := by decide +kernel
theorem d_Model_keeps_1 : decode og_c_Model_keeps 1 = .ok (.aload_n 0, 1) := by decide +kernel
theorem d_Model_keeps_2 : decode og_c_Model_keeps 2 = .ok (.getfield 568, 3) := by decide +kernel
theorem d_Model_keeps_5 : decode og_c_Model_keeps 5 = .ok (.iconst 1, 1) := by decide +kernel
theorem d_Model_keeps_6 : decode og_c_Model_keeps 6 = .ok (.iadd, 1) := by decide +kernel
theorem d_Model_keeps_7 : decode og_c_Model_keeps 7 = .ok (.bipush 20, 2) := by decide +kernel
theorem d_Model_keeps_9 : decode og_c_Model_keeps 9 = .ok (.irem, 1) := by decide +kernel
theorem d_Model_keeps_10 : decode og_c_Model_keeps 10 = .ok (.putfield 568, 3) := by decide +kernel
theorem d_Model_keeps_13 : decode og_c_Model_keeps 13 = .ok (.iconst 0, 1) := by decide +kernel
theorem d_Model_keeps_14 : decode og_c_Model_keeps 14 = .ok (.istore_n 1, 1) := by decide +kernel
theorem d_Model_keeps_15 : decode og_c_Model_keeps 15 = .ok (.iload_n 1, 1) := by decide +kernel
theorem d_Model_keeps_16 : decode og_c_Model_keeps 16 = .ok (.sipush 204, 3) := by decide +kernel
theorem d_Model_keeps_19 : decode og_c_Model_keeps 19 = .ok (.if_icmp .ge 30, 3) := by decide +kernel
theorem d_Model_keeps_22 : decode og_c_Model_keeps 22 = .ok (.aload_n 0, 1) := by decide +kernel
theorem d_Model_keeps_23 : decode og_c_Model_keeps 23 = .ok (.getfield 154, 3) := by decide +kernel
theorem d_Model_keeps_26 : decode og_c_Model_keeps 26 = .ok (.sipush 204, 3) := by decide +kernel
theorem d_Model_keeps_29 : decode og_c_Model_keeps 29 = .ok (.aload_n 0, 1) := by decide +kernel
theorem d_Model_keeps_30 : decode og_c_Model_keeps 30 = .ok (.getfield 568, 3) := by decide +kernel
theorem d_Model_keeps_33 : decode og_c_Model_keeps 33 = .ok (.imul, 1) := by decide +kernel
theorem d_Model_keeps_34 : decode og_c_Model_keeps 34 = .ok (.iload_n 1, 1) := by decide +kernel
theorem d_Model_keeps_35 : decode og_c_Model_keeps 35 = .ok (.iadd, 1) := by decide +kernel
theorem d_Model_keeps_36 : decode og_c_Model_keeps 36 = .ok (.aload_n 0, 1) := by decide +kernel
theorem d_Model_keeps_37 : decode og_c_Model_keeps 37 = .ok (.getfield 124, 3) := by decide +kernel
theorem d_Model_keeps_40 : decode og_c_Model_keeps 40 = .ok (.iload_n 1, 1) := by decide +kernel
theorem d_Model_keeps_41 : decode og_c_Model_keeps 41 = .ok (.iaload, 1) := by decide +kernel
theorem d_Model_keeps_42 : decode og_c_Model_keeps 42 = .ok (.iastore, 1) := by decide +kernel
theorem d_Model_keeps_43 : decode og_c_Model_keeps 43 = .ok (.iinc 1 1, 3) := by decide +kernel
theorem d_Model_keeps_46 : decode og_c_Model_keeps 46 = .ok (.goto (-31), 3) := by decide +kernel
theorem d_Model_keeps_49 : decode og_c_Model_keeps 49 = .ok (.aload_n 0, 1) := by decide +kernel
theorem d_Model_keeps_50 : decode og_c_Model_keeps 50 = .ok (.getfield 372, 3) := by decide +kernel
theorem d_Model_keeps_53 : decode og_c_Model_keeps 53 = .ok (.bipush 20, 2) := by decide +kernel
theorem d_Model_keeps_55 : decode og_c_Model_keeps 55 = .ok (.if_icmp .ge 13, 3) := by decide +kernel
theorem d_Model_keeps_58 : decode og_c_Model_keeps 58 = .ok (.aload_n 0, 1) := by decide +kernel
theorem d_Model_keeps_59 : decode og_c_Model_keeps 59 = .ok (.dup, 1) := by decide +kernel
theorem d_Model_keeps_60 : decode og_c_Model_keeps 60 = .ok (.getfield 372, 3) := by decide +kernel
theorem d_Model_keeps_63 : decode og_c_Model_keeps 63 = .ok (.iconst 1, 1) := by decide +kernel
theorem d_Model_keeps_64 : decode og_c_Model_keeps 64 = .ok (.iadd, 1) := by decide +kernel
theorem d_Model_keeps_65 : decode og_c_Model_keeps 65 = .ok (.putfield 372, 3) := by decide +kernel
theorem d_Model_keeps_68 : decode og_c_Model_keeps 68 = .ok (.return_, 1) := by decide +kernel
def m_Model_keeps : og_Dn := og_den [17] 2 2 (og_seq (og_putf 66 (og_loc 0) (og_rem (og_add (og_get 66 (og_loc 0)) (og_k 1)) (og_k 20))) (og_cut (og_seq (og_set 1 (og_k 0)) (og_while (og_cc og_rlt (og_loc 1) (og_k 204)) (og_ast 4080 (og_fix (fun _ => 1047) (og_loc 0)) (og_add (og_mul (og_k 204) (og_get 66 (og_loc 0))) (og_loc 1)) (og_ald 204 (og_fix (fun _ => 1037) (og_loc 0)) (og_loc 1))) (og_inc 1 1))) (og_if (og_cc og_rlt (og_get 65 (og_loc 0)) (og_k 20)) (og_pop32 og_padd 65 (og_loc 0) (og_k 1)) (og_skip))))
set_option maxRecDepth 20000 in
theorem ok_Model_keeps : og_MOK og_y_Model_keeps og_c_Model_keeps 2 2 1 [17] m_Model_keeps := og_method (b := 68) (lt' := [(0, 17)]) (by decide +kernel) (by decide) (by decide) (og_sseq (og_p_Model_newest (og_aload_n (i := 0) (t := 15) (j := 0) (by rfl) (by rfl) d_Model_keeps_0) (og_irem (og_iadd (og_f_Model_newest (og_aload_n (i := 0) (t := 15) (j := 0) (by rfl) (by rfl) d_Model_keeps_1) og_w1209 d_Model_keeps_2) (og_iconst (by decide) d_Model_keeps_5) d_Model_keeps_6) (og_bipush (by decide) d_Model_keeps_7) d_Model_keeps_9) og_w1209 d_Model_keeps_10) (og_scut (og_sdrop (lt' := [(0, 17), (1, 0)]) (lt2 := [(0, 17)]) (og_sseq (og_istore_n (i := 1) (lt' := [(0, 17), (1, 0)]) (og_iconst (by decide) d_Model_keeps_13) (by rfl) (by decide) (by decide) d_Model_keeps_14) (og_swhile (T := 22) (F := 49) (cp0 := 43) (og_ccn og_n_lt (og_ige (tgt := 49) (og_iload_n (i := 1) (j := 1) (by rfl) (by rfl) d_Model_keeps_15) (og_sipush (by decide) d_Model_keeps_16) d_Model_keeps_19 (by decide))) (og_iastore (N := 4080) (og_f_Model_kept0 (og_aload_n (i := 0) (t := 15) (j := 0) (by rfl) (by rfl) d_Model_keeps_22) og_w1207 d_Model_keeps_23) (by rfl) (og_iadd (og_imul (og_sipush (by decide) d_Model_keeps_26) (og_f_Model_newest (og_aload_n (i := 0) (t := 15) (j := 0) (by rfl) (by rfl) d_Model_keeps_29) og_w1209 d_Model_keeps_30) d_Model_keeps_33) (og_iload_n (i := 1) (j := 1) (by rfl) (by rfl) d_Model_keeps_34) d_Model_keeps_35) (og_iald (N := 204) (og_f_Model_now (og_aload_n (i := 0) (t := 15) (j := 0) (by rfl) (by rfl) d_Model_keeps_36) og_w1192 d_Model_keeps_37) (by rfl) (og_iload_n (i := 1) (j := 1) (by rfl) (by rfl) d_Model_keeps_40) d_Model_keeps_41) d_Model_keeps_42) (og_gS (b' := 15) (og_iinc (j := 1) (lt' := [(0, 17), (1, 0)]) (by rfl) (by decide) (by decide) d_Model_keeps_43) d_Model_keeps_46 (by decide)))) (by decide)) (og_sif (T := 58) (F := 68) (og_ccn og_n_lt (og_ige (tgt := 68) (og_f_Model_undoable (og_aload_n (i := 0) (t := 15) (j := 0) (by rfl) (by rfl) d_Model_keeps_49) og_w1208 d_Model_keeps_50) (og_bipush (by decide) d_Model_keeps_53) d_Model_keeps_55 (by decide))) (og_qadd_Model_undoable (og_aload_n (i := 0) (t := 15) (j := 0) (by rfl) (by rfl) d_Model_keeps_58) d_Model_keeps_59 d_Model_keeps_60 (og_iconst (by decide) d_Model_keeps_63) d_Model_keeps_64 og_w1208 d_Model_keeps_65) (og_sskip)))) (fun _ => d_Model_keeps_68)
abbrev og_c_Model_undo : ByteArray := prog_14_method_93_code
abbrev og_y_Model_undo : MethodName := ⟨"OpenGravesModel", "undo", "()Z"⟩
theorem v_Model_undo {own : String} {idx dep : Nat} (h : 1 + 1 ≤ dep) : og_sV own idx og_y_Model_undo og_c_Model_undo 2 3 1 dep 13 0 := ⟨⟨12, og_sl_Model, og_T_Model, 102, rfl, by decide, rfl⟩, og_w1913, og_w1914, og_w17, og_w1915, ⟨by decide +kernel, by decide +kernel, by decide +kernel⟩, h, by decide⟩
theorem d_Model_undo_0 : decode og_c_Model_undo 0 = .ok (.aload_n 0, 1) := by decide +kernel
theorem d_Model_undo_1 : decode og_c_Model_undo 1 = .ok (.getfield 372, 3) := by decide +kernel
theorem d_Model_undo_4 : decode og_c_Model_undo 4 = .ok (.ifCond .ne 15, 3) := by decide +kernel
theorem d_Model_undo_7 : decode og_c_Model_undo 7 = .ok (.aload_n 0, 1) := by decide +kernel
theorem d_Model_undo_8 : decode og_c_Model_undo 8 = .ok (.getfield 17, 3) := by decide +kernel
theorem d_Model_undo_11 : decode og_c_Model_undo 11 = .ok (.iconst 4, 1) := by decide +kernel
theorem d_Model_undo_12 : decode og_c_Model_undo 12 = .ok (.dup2, 1) := by decide +kernel
theorem d_Model_undo_13 : decode og_c_Model_undo 13 = .ok (.iaload, 1) := by decide +kernel
theorem d_Model_undo_14 : decode og_c_Model_undo 14 = .ok (.iconst 1, 1) := by decide +kernel
theorem d_Model_undo_15 : decode og_c_Model_undo 15 = .ok (.iadd, 1) := by decide +kernel
theorem d_Model_undo_16 : decode og_c_Model_undo 16 = .ok (.iastore, 1) := by decide +kernel
theorem d_Model_undo_17 : decode og_c_Model_undo 17 = .ok (.iconst 0, 1) := by decide +kernel
theorem d_Model_undo_18 : decode og_c_Model_undo 18 = .ok (.ireturn, 1) := by decide +kernel
theorem d_Model_undo_19 : decode og_c_Model_undo 19 = .ok (.iconst 0, 1) := by decide +kernel
theorem d_Model_undo_20 : decode og_c_Model_undo 20 = .ok (.istore_n 1, 1) := by decide +kernel
theorem d_Model_undo_21 : decode og_c_Model_undo 21 = .ok (.iload_n 1, 1) := by decide +kernel
theorem d_Model_undo_22 : decode og_c_Model_undo 22 = .ok (.sipush 204, 3) := by decide +kernel
theorem d_Model_undo_25 : decode og_c_Model_undo 25 = .ok (.if_icmp .ge 30, 3) := by decide +kernel
theorem d_Model_undo_28 : decode og_c_Model_undo 28 = .ok (.aload_n 0, 1) := by decide +kernel
theorem d_Model_undo_29 : decode og_c_Model_undo 29 = .ok (.getfield 124, 3) := by decide +kernel
theorem d_Model_undo_32 : decode og_c_Model_undo 32 = .ok (.iload_n 1, 1) := by decide +kernel
theorem d_Model_undo_33 : decode og_c_Model_undo 33 = .ok (.aload_n 0, 1) := by decide +kernel
theorem d_Model_undo_34 : decode og_c_Model_undo 34 = .ok (.getfield 154, 3) := by decide +kernel
theorem d_Model_undo_37 : decode og_c_Model_undo 37 = .ok (.sipush 204, 3) := by decide +kernel
theorem d_Model_undo_40 : decode og_c_Model_undo 40 = .ok (.aload_n 0, 1) := by decide +kernel
theorem d_Model_undo_41 : decode og_c_Model_undo 41 = .ok (.getfield 568, 3) := by decide +kernel
theorem d_Model_undo_44 : decode og_c_Model_undo 44 = .ok (.imul, 1) := by decide +kernel
theorem d_Model_undo_45 : decode og_c_Model_undo 45 = .ok (.iload_n 1, 1) := by decide +kernel
theorem d_Model_undo_46 : decode og_c_Model_undo 46 = .ok (.iadd, 1) := by decide +kernel
theorem d_Model_undo_47 : decode og_c_Model_undo 47 = .ok (.iaload, 1) := by decide +kernel
theorem d_Model_undo_48 : decode og_c_Model_undo 48 = .ok (.iastore, 1) := by decide +kernel
theorem d_Model_undo_49 : decode og_c_Model_undo 49 = .ok (.iinc 1 1, 3) := by decide +kernel
theorem d_Model_undo_52 : decode og_c_Model_undo 52 = .ok (.goto (-31), 3) := by decide +kernel
theorem d_Model_undo_55 : decode og_c_Model_undo 55 = .ok (.aload_n 0, 1) := by decide +kernel
theorem d_Model_undo_56 : decode og_c_Model_undo 56 = .ok (.aload_n 0, 1) := by decide +kernel
theorem d_Model_undo_57 : decode og_c_Model_undo 57 = .ok (.getfield 568, 3) := by decide +kernel
theorem d_Model_undo_60 : decode og_c_Model_undo 60 = .ok (.bipush 20, 2) := by decide +kernel
theorem d_Model_undo_62 : decode og_c_Model_undo 62 = .ok (.iadd, 1) := by decide +kernel
theorem d_Model_undo_63 : decode og_c_Model_undo 63 = .ok (.iconst 1, 1) := by decide +kernel
theorem d_Model_undo_64 : decode og_c_Model_undo 64 = .ok (.isub, 1) := by decide +kernel
theorem d_Model_undo_65 : decode og_c_Model_undo 65 = .ok (.bipush 20, 2) := by decide +kernel
theorem d_Model_undo_67 : decode og_c_Model_undo 67 = .ok (.irem, 1) := by decide +kernel
theorem d_Model_undo_68 : decode og_c_Model_undo 68 = .ok (.putfield 568, 3) := by decide +kernel
theorem d_Model_undo_71 : decode og_c_Model_undo 71 = .ok (.aload_n 0, 1) := by decide +kernel
theorem d_Model_undo_72 : decode og_c_Model_undo 72 = .ok (.dup, 1) := by decide +kernel
theorem d_Model_undo_73 : decode og_c_Model_undo 73 = .ok (.getfield 372, 3) := by decide +kernel
theorem d_Model_undo_76 : decode og_c_Model_undo 76 = .ok (.iconst 1, 1) := by decide +kernel
theorem d_Model_undo_77 : decode og_c_Model_undo 77 = .ok (.isub, 1) := by decide +kernel
theorem d_Model_undo_78 : decode og_c_Model_undo 78 = .ok (.putfield 372, 3) := by decide +kernel
theorem d_Model_undo_81 : decode og_c_Model_undo 81 = .ok (.iconst 1, 1) := by decide +kernel
theorem d_Model_undo_82 : decode og_c_Model_undo 82 = .ok (.ireturn, 1) := by decide +kernel
def m_Model_undo : og_Dn := og_den [17] 2 3 (og_seq (og_if (og_cc og_req (og_get 65 (og_loc 0)) (og_k 0)) (og_seq (og_aop og_padd 6 (og_fix (fun _ => 1002) (og_loc 0)) (og_k 4) (og_k 1)) (og_retz (og_k 0))) (og_skip)) (og_cut (og_seq (og_set 1 (og_k 0)) (og_while (og_cc og_rlt (og_loc 1) (og_k 204)) (og_ast 204 (og_fix (fun _ => 1037) (og_loc 0)) (og_loc 1) (og_ald 4080 (og_fix (fun _ => 1047) (og_loc 0)) (og_add (og_mul (og_k 204) (og_get 66 (og_loc 0))) (og_loc 1)))) (og_inc 1 1))) (og_seq (og_putf 66 (og_loc 0) (og_rem (og_sub (og_add (og_get 66 (og_loc 0)) (og_k 20)) (og_k 1)) (og_k 20))) (og_seq (og_pop32 og_psub 65 (og_loc 0) (og_k 1)) (og_retz (og_k 1))))))
set_option maxRecDepth 20000 in
theorem ok_Model_undo : og_MOK og_y_Model_undo og_c_Model_undo 2 3 1 [17] m_Model_undo := og_method (b := 0) (lt' := []) (by decide +kernel) (by decide) (by decide) (og_sseq (og_sif (T := 7) (F := 19) (og_ccn og_n_eq (og_zne (tgt := 19) (og_f_Model_undoable (og_aload_n (i := 0) (t := 15) (j := 0) (by rfl) (by rfl) d_Model_undo_0) og_w1208 d_Model_undo_1) d_Model_undo_4 (by decide))) (og_sseq (og_aadd (N := 6) (og_f_Model_refused (og_aload_n (i := 0) (t := 15) (j := 0) (by rfl) (by rfl) d_Model_undo_7) og_w1152 d_Model_undo_8) (by rfl) (og_iconst (by decide) d_Model_undo_11) d_Model_undo_12 d_Model_undo_13 (og_iconst (by decide) d_Model_undo_14) d_Model_undo_15 d_Model_undo_16) (og_sretz (og_iconst (by decide) d_Model_undo_17) d_Model_undo_18)) (og_sskip)) (og_scut (og_sdrop (lt' := [(0, 17), (1, 0)]) (lt2 := [(0, 17)]) (og_sseq (og_istore_n (i := 1) (lt' := [(0, 17), (1, 0)]) (og_iconst (by decide) d_Model_undo_19) (by rfl) (by decide) (by decide) d_Model_undo_20) (og_swhile (T := 28) (F := 55) (cp0 := 49) (og_ccn og_n_lt (og_ige (tgt := 55) (og_iload_n (i := 1) (j := 1) (by rfl) (by rfl) d_Model_undo_21) (og_sipush (by decide) d_Model_undo_22) d_Model_undo_25 (by decide))) (og_iastore (N := 204) (og_f_Model_now (og_aload_n (i := 0) (t := 15) (j := 0) (by rfl) (by rfl) d_Model_undo_28) og_w1192 d_Model_undo_29) (by rfl) (og_iload_n (i := 1) (j := 1) (by rfl) (by rfl) d_Model_undo_32) (og_iald (N := 4080) (og_f_Model_kept0 (og_aload_n (i := 0) (t := 15) (j := 0) (by rfl) (by rfl) d_Model_undo_33) og_w1207 d_Model_undo_34) (by rfl) (og_iadd (og_imul (og_sipush (by decide) d_Model_undo_37) (og_f_Model_newest (og_aload_n (i := 0) (t := 15) (j := 0) (by rfl) (by rfl) d_Model_undo_40) og_w1209 d_Model_undo_41) d_Model_undo_44) (og_iload_n (i := 1) (j := 1) (by rfl) (by rfl) d_Model_undo_45) d_Model_undo_46) d_Model_undo_47) d_Model_undo_48) (og_gS (b' := 21) (og_iinc (j := 1) (lt' := [(0, 17), (1, 0)]) (by rfl) (by decide) (by decide) d_Model_undo_49) d_Model_undo_52 (by decide)))) (by decide)) (og_sseq (og_p_Model_newest (og_aload_n (i := 0) (t := 15) (j := 0) (by rfl) (by rfl) d_Model_undo_55) (og_irem (og_isub (og_iadd (og_f_Model_newest (og_aload_n (i := 0) (t := 15) (j := 0) (by rfl) (by rfl) d_Model_undo_56) og_w1209 d_Model_undo_57) (og_bipush (by decide) d_Model_undo_60) d_Model_undo_62) (og_iconst (by decide) d_Model_undo_63) d_Model_undo_64) (og_bipush (by decide) d_Model_undo_65) d_Model_undo_67) og_w1209 d_Model_undo_68) (og_sseq (og_qsub_Model_undoable (og_aload_n (i := 0) (t := 15) (j := 0) (by rfl) (by rfl) d_Model_undo_71) d_Model_undo_72 d_Model_undo_73 (og_iconst (by decide) d_Model_undo_76) d_Model_undo_77 og_w1208 d_Model_undo_78) (og_sretz (og_iconst (by decide) d_Model_undo_81) d_Model_undo_82))))) (fun h => by cases h)
abbrev og_c_Model_dig : ByteArray := prog_14_method_94_code
abbrev og_y_Model_dig : MethodName := ⟨"OpenGravesModel", "dig", "(I)I"⟩
theorem v_Model_dig {own : String} {idx dep : Nat} (h : 3 + 1 ≤ dep) : og_sV own idx og_y_Model_dig og_c_Model_dig 2 0 3 dep 13 1 := ⟨⟨12, og_sl_Model, og_T_Model, 102, rfl, by decide, rfl⟩, og_w1917, og_w1918, og_w17, og_w1919, ⟨by decide +kernel, by decide +kernel, by decide +kernel⟩, h, by decide⟩
theorem d_Model_dig_0 : decode og_c_Model_dig 0 = .ok (.aload_n 0, 1) := by decide +kernel
theorem d_Model_dig_1 : decode og_c_Model_dig 1 = .ok (.iload_n 1, 1) := by decide +kernel
theorem d_Model_dig_2 : decode og_c_Model_dig 2 = .ok (.i2l, 1) := by decide +kernel
theorem d_Model_dig_3 : decode og_c_Model_dig 3 = .ok (.invokevirtual 485, 3) := by decide +kernel
theorem d_Model_dig_6 : decode og_c_Model_dig 6 = .ok (.ifCond .eq 22, 3) := by decide +kernel
theorem d_Model_dig_9 : decode og_c_Model_dig 9 = .ok (.aload_n 0, 1) := by decide +kernel
theorem d_Model_dig_10 : decode og_c_Model_dig 10 = .ok (.iload_n 1, 1) := by decide +kernel
theorem d_Model_dig_11 : decode og_c_Model_dig 11 = .ok (.invokevirtual 387, 3) := by decide +kernel
theorem d_Model_dig_14 : decode og_c_Model_dig 14 = .ok (.iconst (-1), 1) := by decide +kernel
theorem d_Model_dig_15 : decode og_c_Model_dig 15 = .ok (.if_icmp .ne 13, 3) := by decide +kernel
theorem d_Model_dig_18 : decode og_c_Model_dig 18 = .ok (.aload_n 0, 1) := by decide +kernel
theorem d_Model_dig_19 : decode og_c_Model_dig 19 = .ok (.iload_n 1, 1) := by decide +kernel
theorem d_Model_dig_20 : decode og_c_Model_dig 20 = .ok (.invokevirtual 384, 3) := by decide +kernel
theorem d_Model_dig_23 : decode og_c_Model_dig 23 = .ok (.bipush 9, 2) := by decide +kernel
theorem d_Model_dig_25 : decode og_c_Model_dig 25 = .ok (.if_icmp .ne 9, 3) := by decide +kernel
theorem d_Model_dig_28 : decode og_c_Model_dig 28 = .ok (.aload_n 0, 1) := by decide +kernel
theorem d_Model_dig_29 : decode og_c_Model_dig 29 = .ok (.iconst 2, 1) := by decide +kernel
theorem d_Model_dig_30 : decode og_c_Model_dig 30 = .ok (.invokevirtual 551, 3) := by decide +kernel
theorem d_Model_dig_33 : decode og_c_Model_dig 33 = .ok (.ireturn, 1) := by decide +kernel
theorem d_Model_dig_34 : decode og_c_Model_dig 34 = .ok (.aload_n 0, 1) := by decide +kernel
theorem d_Model_dig_35 : decode og_c_Model_dig 35 = .ok (.invokevirtual 571, 3) := by decide +kernel
theorem d_Model_dig_38 : decode og_c_Model_dig 38 = .ok (.aload_n 0, 1) := by decide +kernel
theorem d_Model_dig_39 : decode og_c_Model_dig 39 = .ok (.getfield 124, 3) := by decide +kernel
theorem d_Model_dig_42 : decode og_c_Model_dig 42 = .ok (.iconst 1, 1) := by decide +kernel
theorem d_Model_dig_43 : decode og_c_Model_dig 43 = .ok (.iconst 3, 1) := by decide +kernel
theorem d_Model_dig_44 : decode og_c_Model_dig 44 = .ok (.iload_n 1, 1) := by decide +kernel
theorem d_Model_dig_45 : decode og_c_Model_dig 45 = .ok (.imul, 1) := by decide +kernel
theorem d_Model_dig_46 : decode og_c_Model_dig 46 = .ok (.iadd, 1) := by decide +kernel
theorem d_Model_dig_47 : decode og_c_Model_dig 47 = .ok (.dup2, 1) := by decide +kernel
theorem d_Model_dig_48 : decode og_c_Model_dig 48 = .ok (.iaload, 1) := by decide +kernel
theorem d_Model_dig_49 : decode og_c_Model_dig 49 = .ok (.iconst 1, 1) := by decide +kernel
theorem d_Model_dig_50 : decode og_c_Model_dig 50 = .ok (.iadd, 1) := by decide +kernel
theorem d_Model_dig_51 : decode og_c_Model_dig 51 = .ok (.iastore, 1) := by decide +kernel
theorem d_Model_dig_52 : decode og_c_Model_dig 52 = .ok (.aload_n 0, 1) := by decide +kernel
theorem d_Model_dig_53 : decode og_c_Model_dig 53 = .ok (.iload_n 1, 1) := by decide +kernel
theorem d_Model_dig_54 : decode og_c_Model_dig 54 = .ok (.invokevirtual 384, 3) := by decide +kernel
theorem d_Model_dig_57 : decode og_c_Model_dig 57 = .ok (.ireturn, 1) := by decide +kernel
def m_Model_dig : og_Dn := og_den [17, 0] 2 0 (og_seq (og_if (og_or (og_or (og_not (og_cb (og_call m_Model_isGrave [og_loc 0, og_i2l (og_loc 1)]))) (og_cc og_rne (og_call m_Model_inGrave [og_loc 0, og_loc 1]) (og_k (-1)))) (og_cc og_req (og_call m_Model_deepOf [og_loc 0, og_loc 1]) (og_k 9))) (og_ret (og_call m_Model_refuses [og_loc 0, og_k 2])) (og_skip)) (og_seq (og_exp (og_call m_Model_keeps [og_loc 0])) (og_seq (og_aop og_padd 204 (og_fix (fun _ => 1037) (og_loc 0)) (og_add (og_k 1) (og_mul (og_k 3) (og_loc 1))) (og_k 1)) (og_ret (og_call m_Model_deepOf [og_loc 0, og_loc 1])))))
set_option maxRecDepth 20000 in
theorem ok_Model_dig : og_MOK og_y_Model_dig og_c_Model_dig 2 0 3 [17, 0] m_Model_dig := og_method (b := 0) (lt' := []) (by decide +kernel) (by decide) (by decide) (og_sseq (og_sif (T := 28) (F := 34) (og_cor (og_cor (og_cnot (og_cbeq (tgt := 28) (og_callVz (og_acons (og_aload_n (i := 0) (t := 15) (j := 0) (by rfl) (by rfl) d_Model_dig_0) (og_acons (og_i2l_ (og_iload_n (i := 1) (j := 1) (by rfl) (by rfl) d_Model_dig_1) d_Model_dig_2) (og_anil))) (by decide) ok_Model_isGrave (v_Model_isGrave (by decide)) og_w1678 d_Model_dig_3) d_Model_dig_6 (by decide))) (og_ine (tgt := 28) (og_callVi (og_acons (og_aload_n (i := 0) (t := 15) (j := 0) (by rfl) (by rfl) d_Model_dig_9) (og_acons (og_iload_n (i := 1) (j := 1) (by rfl) (by rfl) d_Model_dig_10) (og_anil))) (by decide) ok_Model_inGrave (v_Model_inGrave (by decide)) og_w1661 d_Model_dig_11) (og_iconst (by decide) d_Model_dig_14) d_Model_dig_15 (by decide))) (og_ccn og_n_eq (og_ine (tgt := 34) (og_callVi (og_acons (og_aload_n (i := 0) (t := 15) (j := 0) (by rfl) (by rfl) d_Model_dig_18) (og_acons (og_iload_n (i := 1) (j := 1) (by rfl) (by rfl) d_Model_dig_19) (og_anil))) (by decide) ok_Model_deepOf (v_Model_deepOf (by decide)) og_w1657 d_Model_dig_20) (og_bipush (by decide) d_Model_dig_23) d_Model_dig_25 (by decide)))) (og_sreti (og_callVi (og_acons (og_aload_n (i := 0) (t := 15) (j := 0) (by rfl) (by rfl) d_Model_dig_28) (og_acons (og_iconst (by decide) d_Model_dig_29) (og_anil))) (by decide) ok_Model_refuses (v_Model_refuses (by decide)) og_w1883 d_Model_dig_30) d_Model_dig_33) (og_sskip)) (og_sseq (og_callVv (og_acons (og_aload_n (i := 0) (t := 15) (j := 0) (by rfl) (by rfl) d_Model_dig_34) (og_anil)) ok_Model_keeps (v_Model_keeps (by decide)) og_w1920 d_Model_dig_35) (og_sseq (og_aadd (N := 204) (og_f_Model_now (og_aload_n (i := 0) (t := 15) (j := 0) (by rfl) (by rfl) d_Model_dig_38) og_w1192 d_Model_dig_39) (by rfl) (og_iadd (og_iconst (by decide) d_Model_dig_42) (og_imul (og_iconst (by decide) d_Model_dig_43) (og_iload_n (i := 1) (j := 1) (by rfl) (by rfl) d_Model_dig_44) d_Model_dig_45) d_Model_dig_46) d_Model_dig_47 d_Model_dig_48 (og_iconst (by decide) d_Model_dig_49) d_Model_dig_50 d_Model_dig_51) (og_sreti (og_callVi (og_acons (og_aload_n (i := 0) (t := 15) (j := 0) (by rfl) (by rfl) d_Model_dig_52) (og_acons (og_iload_n (i := 1) (j := 1) (by rfl) (by rfl) d_Model_dig_53) (og_anil))) (by decide) ok_Model_deepOf (v_Model_deepOf (by decide)) og_w1657 d_Model_dig_54) d_Model_dig_57)))) (fun h => by cases h)
abbrev og_c_Model_isRefused : ByteArray := prog_14_method_95_code
abbrev og_y_Model_isRefused : MethodName := ⟨"OpenGravesModel", "isRefused", "()Z"⟩
theorem v_Model_isRefused {own : String} {idx dep : Nat} (h : 1 + 1 ≤ dep) : og_sV own idx og_y_Model_isRefused og_c_Model_isRefused 1 3 1 dep 13 0 := ⟨⟨12, og_sl_Model, og_T_Model, 102, rfl, by decide, rfl⟩, og_w1930, (og_memP (⟨"OpenGravesModel", "isRefused", "()Z"⟩, 102) (List.mem_of_getElem? (i := 137) (by decide +kernel))), og_w17, og_w1931, ⟨by decide +kernel, by decide +kernel, by decide +kernel⟩, h, by decide⟩
theorem d_Model_isRefused_0 : decode og_c_Model_isRefused 0 = .ok (.aload_n 0, 1) := by decide +kernel
theorem d_Model_isRefused_1 : decode og_c_Model_isRefused 1 = .ok (.getfield 17, 3) := by decide +kernel
theorem d_Model_isRefused_4 : decode og_c_Model_isRefused 4 = .ok (.iconst 2, 1) := by decide +kernel
theorem d_Model_isRefused_5 : decode og_c_Model_isRefused 5 = .ok (.dup2, 1) := by decide +kernel
theorem d_Model_isRefused_6 : decode og_c_Model_isRefused 6 = .ok (.iaload, 1) := by decide +kernel
theorem d_Model_isRefused_7 : decode og_c_Model_isRefused 7 = .ok (.iconst 1, 1) := by decide +kernel
theorem d_Model_isRefused_8 : decode og_c_Model_isRefused 8 = .ok (.iadd, 1) := by decide +kernel
theorem d_Model_isRefused_9 : decode og_c_Model_isRefused 9 = .ok (.iastore, 1) := by decide +kernel
theorem d_Model_isRefused_10 : decode og_c_Model_isRefused 10 = .ok (.iconst 0, 1) := by decide +kernel
theorem d_Model_isRefused_11 : decode og_c_Model_isRefused 11 = .ok (.ireturn, 1) := by decide +kernel
def m_Model_isRefused : og_Dn := og_den [17] 1 3 (og_seq (og_aop og_padd 6 (og_fix (fun _ => 1002) (og_loc 0)) (og_k 2) (og_k 1)) (og_retz (og_k 0)))
set_option maxRecDepth 20000 in
theorem ok_Model_isRefused : og_MOK og_y_Model_isRefused og_c_Model_isRefused 1 3 1 [17] m_Model_isRefused := og_method (b := 0) (lt' := []) (by decide +kernel) (by decide) (by decide) (og_sseq (og_aadd (N := 6) (og_f_Model_refused (og_aload_n (i := 0) (t := 15) (j := 0) (by rfl) (by rfl) d_Model_isRefused_0) og_w1152 d_Model_isRefused_1) (by rfl) (og_iconst (by decide) d_Model_isRefused_4) d_Model_isRefused_5 d_Model_isRefused_6 (og_iconst (by decide) d_Model_isRefused_7) d_Model_isRefused_8 d_Model_isRefused_9) (og_sretz (og_iconst (by decide) d_Model_isRefused_10) d_Model_isRefused_11)) (fun h => by cases h)
abbrev og_c_Model_fill : ByteArray := prog_14_method_96_code
abbrev og_y_Model_fill : MethodName := ⟨"OpenGravesModel", "fill", "(II)Z"⟩
theorem v_Model_fill {own : String} {idx dep : Nat} (h : 4 + 1 ≤ dep) : og_sV own idx og_y_Model_fill og_c_Model_fill 3 3 4 dep 13 2 := ⟨⟨12, og_sl_Model, og_T_Model, 102, rfl, by decide, rfl⟩, og_w1925, og_w1926, og_w17, og_w1927, ⟨by decide +kernel, by decide +kernel, by decide +kernel⟩, h, by decide⟩
theorem d_Model_fill_0 : decode og_c_Model_fill 0 = .ok (.aload_n 0, 1) := by decide +kernel
theorem d_Model_fill_1 : decode og_c_Model_fill 1 = .ok (.iload_n 1, 1) := by decide +kernel
theorem d_Model_fill_2 : decode og_c_Model_fill 2 = .ok (.i2l, 1) := by decide +kernel
theorem d_Model_fill_3 : decode og_c_Model_fill 3 = .ok (.invokevirtual 485, 3) := by decide +kernel
theorem d_Model_fill_6 : decode og_c_Model_fill 6 = .ok (.ifCond .eq 29, 3) := by decide +kernel
theorem d_Model_fill_9 : decode og_c_Model_fill 9 = .ok (.aload_n 0, 1) := by decide +kernel
theorem d_Model_fill_10 : decode og_c_Model_fill 10 = .ok (.iload_n 2, 1) := by decide +kernel
theorem d_Model_fill_11 : decode og_c_Model_fill 11 = .ok (.invokevirtual 500, 3) := by decide +kernel
theorem d_Model_fill_14 : decode og_c_Model_fill 14 = .ok (.ifCond .eq 21, 3) := by decide +kernel
theorem d_Model_fill_17 : decode og_c_Model_fill 17 = .ok (.aload_n 0, 1) := by decide +kernel
theorem d_Model_fill_18 : decode og_c_Model_fill 18 = .ok (.iload_n 1, 1) := by decide +kernel
theorem d_Model_fill_19 : decode og_c_Model_fill 19 = .ok (.invokevirtual 387, 3) := by decide +kernel
theorem d_Model_fill_22 : decode og_c_Model_fill 22 = .ok (.iconst (-1), 1) := by decide +kernel
theorem d_Model_fill_23 : decode og_c_Model_fill 23 = .ok (.if_icmp .ne 12, 3) := by decide +kernel
theorem d_Model_fill_26 : decode og_c_Model_fill 26 = .ok (.aload_n 0, 1) := by decide +kernel
theorem d_Model_fill_27 : decode og_c_Model_fill 27 = .ok (.iload_n 2, 1) := by decide +kernel
theorem d_Model_fill_28 : decode og_c_Model_fill 28 = .ok (.iload_n 1, 1) := by decide +kernel
theorem d_Model_fill_29 : decode og_c_Model_fill 29 = .ok (.invokevirtual 431, 3) := by decide +kernel
theorem d_Model_fill_32 : decode og_c_Model_fill 32 = .ok (.ifCond .ne 8, 3) := by decide +kernel
theorem d_Model_fill_35 : decode og_c_Model_fill 35 = .ok (.aload_n 0, 1) := by decide +kernel
theorem d_Model_fill_36 : decode og_c_Model_fill 36 = .ok (.invokevirtual 574, 3) := by decide +kernel
theorem d_Model_fill_39 : decode og_c_Model_fill 39 = .ok (.ireturn, 1) := by decide +kernel
theorem d_Model_fill_40 : decode og_c_Model_fill 40 = .ok (.aload_n 0, 1) := by decide +kernel
theorem d_Model_fill_41 : decode og_c_Model_fill 41 = .ok (.invokevirtual 571, 3) := by decide +kernel
theorem d_Model_fill_44 : decode og_c_Model_fill 44 = .ok (.aload_n 0, 1) := by decide +kernel
theorem d_Model_fill_45 : decode og_c_Model_fill 45 = .ok (.iload_n 2, 1) := by decide +kernel
theorem d_Model_fill_46 : decode og_c_Model_fill 46 = .ok (.iload_n 1, 1) := by decide +kernel
theorem d_Model_fill_47 : decode og_c_Model_fill 47 = .ok (.iconst 3, 1) := by decide +kernel
theorem d_Model_fill_48 : decode og_c_Model_fill 48 = .ok (.invokevirtual 448, 3) := by decide +kernel
theorem d_Model_fill_51 : decode og_c_Model_fill 51 = .ok (.iconst 1, 1) := by decide +kernel
theorem d_Model_fill_52 : decode og_c_Model_fill 52 = .ok (.ireturn, 1) := by decide +kernel
def m_Model_fill : og_Dn := og_den [17, 0, 0] 3 3 (og_seq (og_if (og_or (og_or (og_or (og_not (og_cb (og_call m_Model_isGrave [og_loc 0, og_i2l (og_loc 1)]))) (og_not (og_cb (og_call m_Model_isLiving [og_loc 0, og_loc 2])))) (og_cc og_rne (og_call m_Model_inGrave [og_loc 0, og_loc 1]) (og_k (-1)))) (og_not (og_cb (og_call m_Model_doesFit [og_loc 0, og_loc 2, og_loc 1])))) (og_retz (og_call m_Model_isRefused [og_loc 0])) (og_skip)) (og_seq (og_exp (og_call m_Model_keeps [og_loc 0])) (og_seq (og_exp (og_call m_Model_goesInto [og_loc 0, og_loc 2, og_loc 1, og_k 3])) (og_retz (og_k 1)))))
set_option maxRecDepth 20000 in
theorem ok_Model_fill : og_MOK og_y_Model_fill og_c_Model_fill 3 3 4 [17, 0, 0] m_Model_fill := og_method (b := 0) (lt' := []) (by decide +kernel) (by decide) (by decide) (og_sseq (og_sif (T := 35) (F := 40) (og_cor (og_cor (og_cor (og_cnot (og_cbeq (tgt := 35) (og_callVz (og_acons (og_aload_n (i := 0) (t := 15) (j := 0) (by rfl) (by rfl) d_Model_fill_0) (og_acons (og_i2l_ (og_iload_n (i := 1) (j := 1) (by rfl) (by rfl) d_Model_fill_1) d_Model_fill_2) (og_anil))) (by decide) ok_Model_isGrave (v_Model_isGrave (by decide)) og_w1678 d_Model_fill_3) d_Model_fill_6 (by decide))) (og_cnot (og_cbeq (tgt := 35) (og_callVz (og_acons (og_aload_n (i := 0) (t := 15) (j := 0) (by rfl) (by rfl) d_Model_fill_9) (og_acons (og_iload_n (i := 2) (j := 2) (by rfl) (by rfl) d_Model_fill_10) (og_anil))) (by decide) ok_Model_isLiving (v_Model_isLiving (by decide)) og_w1755 d_Model_fill_11) d_Model_fill_14 (by decide)))) (og_ine (tgt := 35) (og_callVi (og_acons (og_aload_n (i := 0) (t := 15) (j := 0) (by rfl) (by rfl) d_Model_fill_17) (og_acons (og_iload_n (i := 1) (j := 1) (by rfl) (by rfl) d_Model_fill_18) (og_anil))) (by decide) ok_Model_inGrave (v_Model_inGrave (by decide)) og_w1661 d_Model_fill_19) (og_iconst (by decide) d_Model_fill_22) d_Model_fill_23 (by decide))) (og_cnot (og_cbne (tgt := 40) (og_callVz (og_acons (og_aload_n (i := 0) (t := 15) (j := 0) (by rfl) (by rfl) d_Model_fill_26) (og_acons (og_iload_n (i := 2) (j := 2) (by rfl) (by rfl) d_Model_fill_27) (og_acons (og_iload_n (i := 1) (j := 1) (by rfl) (by rfl) d_Model_fill_28) (og_anil)))) (by decide) ok_Model_doesFit (v_Model_doesFit (by decide)) og_w1763 d_Model_fill_29) d_Model_fill_32 (by decide)))) (og_sretz (og_callVz (og_acons (og_aload_n (i := 0) (t := 15) (j := 0) (by rfl) (by rfl) d_Model_fill_35) (og_anil)) (by decide) ok_Model_isRefused (v_Model_isRefused (by decide)) og_w1928 d_Model_fill_36) d_Model_fill_39) (og_sskip)) (og_sseq (og_callVv (og_acons (og_aload_n (i := 0) (t := 15) (j := 0) (by rfl) (by rfl) d_Model_fill_40) (og_anil)) ok_Model_keeps (v_Model_keeps (by decide)) og_w1920 d_Model_fill_41) (og_sseq (og_callVv (og_acons (og_aload_n (i := 0) (t := 15) (j := 0) (by rfl) (by rfl) d_Model_fill_44) (og_acons (og_iload_n (i := 2) (j := 2) (by rfl) (by rfl) d_Model_fill_45) (og_acons (og_iload_n (i := 1) (j := 1) (by rfl) (by rfl) d_Model_fill_46) (og_acons (og_iconst (by decide) d_Model_fill_47) (og_anil))))) ok_Model_goesInto (v_Model_goesInto (by decide)) og_w1800 d_Model_fill_48) (og_sretz (og_iconst (by decide) d_Model_fill_51) d_Model_fill_52)))) (fun h => by cases h)
abbrev og_c_Model_talk : ByteArray := prog_14_method_97_code
abbrev og_y_Model_talk : MethodName := ⟨"OpenGravesModel", "talk", "(II)Z"⟩
theorem v_Model_talk {own : String} {idx dep : Nat} (h : 4 + 1 ≤ dep) : og_sV own idx og_y_Model_talk og_c_Model_talk 3 3 4 dep 13 2 := ⟨⟨12, og_sl_Model, og_T_Model, 102, rfl, by decide, rfl⟩, og_w1933, og_w1934, og_w17, og_w1935, ⟨by decide +kernel, by decide +kernel, by decide +kernel⟩, h, by decide⟩
theorem d_Model_talk_0 : decode og_c_Model_talk 0 = .ok (.aload_n 0, 1) := by decide +kernel
theorem d_Model_talk_1 : decode og_c_Model_talk 1 = .ok (.iload_n 1, 1) := by decide +kernel
theorem d_Model_talk_2 : decode og_c_Model_talk 2 = .ok (.invokevirtual 500, 3) := by decide +kernel
theorem d_Model_talk_5 : decode og_c_Model_talk 5 = .ok (.ifCond .eq 24, 3) := by decide +kernel
theorem d_Model_talk_8 : decode og_c_Model_talk 8 = .ok (.iload_n 2, 1) := by decide +kernel
theorem d_Model_talk_9 : decode og_c_Model_talk 9 = .ok (.i2l, 1) := by decide +kernel
theorem d_Model_talk_10 : decode og_c_Model_talk 10 = .ok (.lconst 0, 1) := by decide +kernel
theorem d_Model_talk_11 : decode og_c_Model_talk 11 = .ok (.ldc2_w 429, 3) := by decide +kernel
theorem d_Model_talk_14 : decode og_c_Model_talk 14 = .ok (.invokestatic 285, 3) := by decide +kernel
theorem d_Model_talk_17 : decode og_c_Model_talk 17 = .ok (.ifCond .eq 12, 3) := by decide +kernel
theorem d_Model_talk_20 : decode og_c_Model_talk 20 = .ok (.aload_n 0, 1) := by decide +kernel
theorem d_Model_talk_21 : decode og_c_Model_talk 21 = .ok (.iload_n 1, 1) := by decide +kernel
theorem d_Model_talk_22 : decode og_c_Model_talk 22 = .ok (.invokevirtual 426, 3) := by decide +kernel
theorem d_Model_talk_25 : decode og_c_Model_talk 25 = .ok (.iload_n 2, 1) := by decide +kernel
theorem d_Model_talk_26 : decode og_c_Model_talk 26 = .ok (.if_icmp .ne 8, 3) := by decide +kernel
theorem d_Model_talk_29 : decode og_c_Model_talk 29 = .ok (.aload_n 0, 1) := by decide +kernel
theorem d_Model_talk_30 : decode og_c_Model_talk 30 = .ok (.invokevirtual 574, 3) := by decide +kernel
theorem d_Model_talk_33 : decode og_c_Model_talk 33 = .ok (.ireturn, 1) := by decide +kernel
theorem d_Model_talk_34 : decode og_c_Model_talk 34 = .ok (.aload_n 0, 1) := by decide +kernel
theorem d_Model_talk_35 : decode og_c_Model_talk 35 = .ok (.invokevirtual 571, 3) := by decide +kernel
theorem d_Model_talk_38 : decode og_c_Model_talk 38 = .ok (.aload_n 0, 1) := by decide +kernel
theorem d_Model_talk_39 : decode og_c_Model_talk 39 = .ok (.getfield 124, 3) := by decide +kernel
theorem d_Model_talk_42 : decode og_c_Model_talk 42 = .ok (.bipush 21, 2) := by decide +kernel
theorem d_Model_talk_44 : decode og_c_Model_talk 44 = .ok (.iconst 3, 1) := by decide +kernel
theorem d_Model_talk_45 : decode og_c_Model_talk 45 = .ok (.iload_n 1, 1) := by decide +kernel
theorem d_Model_talk_46 : decode og_c_Model_talk 46 = .ok (.imul, 1) := by decide +kernel
theorem d_Model_talk_47 : decode og_c_Model_talk 47 = .ok (.iadd, 1) := by decide +kernel
theorem d_Model_talk_48 : decode og_c_Model_talk 48 = .ok (.iload_n 2, 1) := by decide +kernel
theorem d_Model_talk_49 : decode og_c_Model_talk 49 = .ok (.iastore, 1) := by decide +kernel
theorem d_Model_talk_50 : decode og_c_Model_talk 50 = .ok (.iconst 1, 1) := by decide +kernel
theorem d_Model_talk_51 : decode og_c_Model_talk 51 = .ok (.ireturn, 1) := by decide +kernel
def m_Model_talk : og_Dn := og_den [17, 0, 0] 3 3 (og_seq (og_if (og_or (og_or (og_not (og_cb (og_call m_Model_isLiving [og_loc 0, og_loc 1]))) (og_not (og_cb (og_call m_Model_isIn [og_i2l (og_loc 2), og_k 0, og_k 9])))) (og_cc og_req (og_call m_Model_willOf [og_loc 0, og_loc 1]) (og_loc 2))) (og_retz (og_call m_Model_isRefused [og_loc 0])) (og_skip)) (og_seq (og_exp (og_call m_Model_keeps [og_loc 0])) (og_seq (og_ast 204 (og_fix (fun _ => 1037) (og_loc 0)) (og_add (og_k 21) (og_mul (og_k 3) (og_loc 1))) (og_loc 2)) (og_retz (og_k 1)))))
set_option maxRecDepth 20000 in
theorem ok_Model_talk : og_MOK og_y_Model_talk og_c_Model_talk 3 3 4 [17, 0, 0] m_Model_talk := og_method (b := 0) (lt' := []) (by decide +kernel) (by decide) (by decide) (og_sseq (og_sif (T := 29) (F := 34) (og_cor (og_cor (og_cnot (og_cbeq (tgt := 29) (og_callVz (og_acons (og_aload_n (i := 0) (t := 15) (j := 0) (by rfl) (by rfl) d_Model_talk_0) (og_acons (og_iload_n (i := 1) (j := 1) (by rfl) (by rfl) d_Model_talk_1) (og_anil))) (by decide) ok_Model_isLiving (v_Model_isLiving (by decide)) og_w1755 d_Model_talk_2) d_Model_talk_5 (by decide))) (og_cnot (og_cbeq (tgt := 29) (og_callSz (og_acons (og_i2l_ (og_iload_n (i := 2) (j := 2) (by rfl) (by rfl) d_Model_talk_8) d_Model_talk_9) (og_acons (og_lconst (x := 0) d_Model_talk_10) (og_acons (og_ldc2 (x := 9) (by decide) og_w1750 d_Model_talk_11) (og_anil)))) (by decide) ok_Model_isIn (v_Model_isIn (by decide)) og_w1520 d_Model_talk_14) d_Model_talk_17 (by decide)))) (og_ccn og_n_eq (og_ine (tgt := 34) (og_callVi (og_acons (og_aload_n (i := 0) (t := 15) (j := 0) (by rfl) (by rfl) d_Model_talk_20) (og_acons (og_iload_n (i := 1) (j := 1) (by rfl) (by rfl) d_Model_talk_21) (og_anil))) (by decide) ok_Model_willOf (v_Model_willOf (by decide)) og_w1698 d_Model_talk_22) (og_iload_n (i := 2) (j := 2) (by rfl) (by rfl) d_Model_talk_25) d_Model_talk_26 (by decide)))) (og_sretz (og_callVz (og_acons (og_aload_n (i := 0) (t := 15) (j := 0) (by rfl) (by rfl) d_Model_talk_29) (og_anil)) (by decide) ok_Model_isRefused (v_Model_isRefused (by decide)) og_w1928 d_Model_talk_30) d_Model_talk_33) (og_sskip)) (og_sseq (og_callVv (og_acons (og_aload_n (i := 0) (t := 15) (j := 0) (by rfl) (by rfl) d_Model_talk_34) (og_anil)) ok_Model_keeps (v_Model_keeps (by decide)) og_w1920 d_Model_talk_35) (og_sseq (og_iastore (N := 204) (og_f_Model_now (og_aload_n (i := 0) (t := 15) (j := 0) (by rfl) (by rfl) d_Model_talk_38) og_w1192 d_Model_talk_39) (by rfl) (og_iadd (og_bipush (by decide) d_Model_talk_42) (og_imul (og_iconst (by decide) d_Model_talk_44) (og_iload_n (i := 1) (j := 1) (by rfl) (by rfl) d_Model_talk_45) d_Model_talk_46) d_Model_talk_47) (og_iload_n (i := 2) (j := 2) (by rfl) (by rfl) d_Model_talk_48) d_Model_talk_49) (og_sretz (og_iconst (by decide) d_Model_talk_50) d_Model_talk_51)))) (fun h => by cases h)
