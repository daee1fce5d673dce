abbrev og_c_OG_refuse : ByteArray := prog_1_method_35_code
abbrev og_y_OG_refuse : MethodName := ⟨"OpenGraves", "refuse", "(I)I"⟩
theorem v_OG_refuse {own : String} {idx dep : Nat} (h : 1 + 1 ≤ dep) : og_sV own idx og_y_OG_refuse og_c_OG_refuse 2 0 1 dep 1 1 := ⟨⟨0, og_sl_OG, og_T_OG, 17, rfl, by decide, rfl⟩, og_w447, (og_memP (⟨"OpenGraves", "refuse", "(I)I"⟩, 17) (List.mem_of_getElem? (i := 0) (by decide +kernel))), og_w1, og_w448, ⟨by decide +kernel, by decide +kernel, by decide +kernel⟩, h, by decide⟩
theorem d_OG_refuse_0 : decode og_c_OG_refuse 0 = .ok (.iload_n 1, 1) := by decide +kernel
theorem d_OG_refuse_1 : decode og_c_OG_refuse 1 = .ok (.ifCond .lt 22, 3) := by decide +kernel
theorem d_OG_refuse_4 : decode og_c_OG_refuse 4 = .ok (.iload_n 1, 1) := by decide +kernel
theorem d_OG_refuse_5 : decode og_c_OG_refuse 5 = .ok (.aload_n 0, 1) := by decide +kernel
theorem d_OG_refuse_6 : decode og_c_OG_refuse 6 = .ok (.getfield 94, 3) := by decide +kernel
theorem d_OG_refuse_9 : decode og_c_OG_refuse 9 = .ok (.arraylength, 1) := by decide +kernel
theorem d_OG_refuse_10 : decode og_c_OG_refuse 10 = .ok (.if_icmp .ge 13, 3) := by decide +kernel
theorem d_OG_refuse_13 : decode og_c_OG_refuse 13 = .ok (.aload_n 0, 1) := by decide +kernel
theorem d_OG_refuse_14 : decode og_c_OG_refuse 14 = .ok (.getfield 94, 3) := by decide +kernel
theorem d_OG_refuse_17 : decode og_c_OG_refuse 17 = .ok (.iload_n 1, 1) := by decide +kernel
theorem d_OG_refuse_18 : decode og_c_OG_refuse 18 = .ok (.dup2, 1) := by decide +kernel
theorem d_OG_refuse_19 : decode og_c_OG_refuse 19 = .ok (.iaload, 1) := by decide +kernel
theorem d_OG_refuse_20 : decode og_c_OG_refuse 20 = .ok (.iconst 1, 1) := by decide +kernel
theorem d_OG_refuse_21 : decode og_c_OG_refuse 21 = .ok (.iadd, 1) := by decide +kernel
theorem d_OG_refuse_22 : decode og_c_OG_refuse 22 = .ok (.iastore, 1) := by decide +kernel
theorem d_OG_refuse_23 : decode og_c_OG_refuse 23 = .ok (.iconst (-1), 1) := by decide +kernel
theorem d_OG_refuse_24 : decode og_c_OG_refuse 24 = .ok (.ireturn, 1) := by decide +kernel
def m_OG_refuse : og_Dn := og_den [5, 0] 2 0 (og_cut (og_if (og_and (og_cc og_rge (og_loc 1) (og_k 0)) (og_cc og_rlt (og_loc 1) (og_len 6 (og_fix (fun _ => 22) (og_loc 0))))) (og_aop og_padd 6 (og_fix (fun _ => 22) (og_loc 0)) (og_loc 1) (og_k 1)) (og_skip)) (og_ret (og_k (-1))))
set_option maxRecDepth 20000 in
theorem ok_OG_refuse : og_MOK og_y_OG_refuse og_c_OG_refuse 2 0 1 [5, 0] m_OG_refuse := og_method (b := 0) (lt' := []) (by decide +kernel) (by decide) (by decide) (og_scut (og_sif (T := 13) (F := 23) (og_cand (og_ccn og_n_ge (og_zlt (tgt := 23) (og_iload_n (i := 1) (j := 1) (by rfl) (by rfl) d_OG_refuse_0) d_OG_refuse_1 (by decide))) (og_ccn og_n_lt (og_ige (tgt := 23) (og_iload_n (i := 1) (j := 1) (by rfl) (by rfl) d_OG_refuse_4) (og_alen (N := 6) (et := 0) (og_f_OG_refused (og_aload_n (i := 0) (t := 3) (j := 0) (by rfl) (by rfl) d_OG_refuse_5) og_w398 d_OG_refuse_6) (by rfl) (by decide) d_OG_refuse_9) d_OG_refuse_10 (by decide)))) (og_aadd (N := 6) (og_f_OG_refused (og_aload_n (i := 0) (t := 3) (j := 0) (by rfl) (by rfl) d_OG_refuse_13) og_w398 d_OG_refuse_14) (by rfl) (og_iload_n (i := 1) (j := 1) (by rfl) (by rfl) d_OG_refuse_17) d_OG_refuse_18 d_OG_refuse_19 (og_iconst (by decide) d_OG_refuse_20) d_OG_refuse_21 d_OG_refuse_22) (og_sskip)) (og_sreti (og_iconst (by decide) d_OG_refuse_23) d_OG_refuse_24)) (fun h => by cases h)
abbrev og_c_Tape_add : ByteArray := prog_10_method_2_code
abbrev og_y_Tape_add : MethodName := ⟨"OpenGraves$Tape", "add", "(I)V"⟩
theorem v_Tape_add {own : String} {idx dep : Nat} (h : 1 + 1 ≤ dep) : og_sV own idx og_y_Tape_add og_c_Tape_add 3 2 1 dep 2 1 := ⟨⟨1, og_sl_Tape, og_T_Tape, 2, rfl, by decide, rfl⟩, og_w450, og_w451, og_w5, og_w452, ⟨by decide +kernel, by decide +kernel, by decide +kernel⟩, h, by decide⟩
theorem d_Tape_add_0 : decode og_c_Tape_add 0 = .ok (.bipush 24, 2) := by decide +kernel
theorem d_Tape_add_2 : decode og_c_Tape_add 2 = .ok (.istore_n 2, 1) := by decide +kernel
theorem d_Tape_add_3 : decode og_c_Tape_add 3 = .ok (.iload_n 2, 1) := by decide +kernel
theorem d_Tape_add_4 : decode og_c_Tape_add 4 = .ok (.ifCond .lt 47, 3) := by decide +kernel
theorem d_Tape_add_7 : decode og_c_Tape_add 7 = .ok (.aload_n 0, 1) := by decide +kernel
theorem d_Tape_add_8 : decode og_c_Tape_add 8 = .ok (.getfield 15, 3) := by decide +kernel
theorem d_Tape_add_11 : decode og_c_Tape_add 11 = .ok (.aload_n 0, 1) := by decide +kernel
theorem d_Tape_add_12 : decode og_c_Tape_add 12 = .ok (.getfield 9, 3) := by decide +kernel
theorem d_Tape_add_15 : decode og_c_Tape_add 15 = .ok (.arraylength, 1) := by decide +kernel
theorem d_Tape_add_16 : decode og_c_Tape_add 16 = .ok (.if_icmp .ge 35, 3) := by decide +kernel
theorem d_Tape_add_19 : decode og_c_Tape_add 19 = .ok (.aload_n 0, 1) := by decide +kernel
theorem d_Tape_add_20 : decode og_c_Tape_add 20 = .ok (.getfield 9, 3) := by decide +kernel
theorem d_Tape_add_23 : decode og_c_Tape_add 23 = .ok (.aload_n 0, 1) := by decide +kernel
theorem d_Tape_add_24 : decode og_c_Tape_add 24 = .ok (.getfield 15, 3) := by decide +kernel
theorem d_Tape_add_27 : decode og_c_Tape_add 27 = .ok (.iload_n 1, 1) := by decide +kernel
theorem d_Tape_add_28 : decode og_c_Tape_add 28 = .ok (.iload_n 2, 1) := by decide +kernel
theorem d_Tape_add_29 : decode og_c_Tape_add 29 = .ok (.iushr, 1) := by decide +kernel
theorem d_Tape_add_30 : decode og_c_Tape_add 30 = .ok (.sipush 255, 3) := by decide +kernel
theorem d_Tape_add_33 : decode og_c_Tape_add 33 = .ok (.iand, 1) := by decide +kernel
theorem d_Tape_add_34 : decode og_c_Tape_add 34 = .ok (.iastore, 1) := by decide +kernel
theorem d_Tape_add_35 : decode og_c_Tape_add 35 = .ok (.aload_n 0, 1) := by decide +kernel
theorem d_Tape_add_36 : decode og_c_Tape_add 36 = .ok (.dup, 1) := by decide +kernel
theorem d_Tape_add_37 : decode og_c_Tape_add 37 = .ok (.getfield 15, 3) := by decide +kernel
theorem d_Tape_add_40 : decode og_c_Tape_add 40 = .ok (.iconst 1, 1) := by decide +kernel
theorem d_Tape_add_41 : decode og_c_Tape_add 41 = .ok (.iadd, 1) := by decide +kernel
theorem d_Tape_add_42 : decode og_c_Tape_add 42 = .ok (.putfield 15, 3) := by decide +kernel
theorem d_Tape_add_45 : decode og_c_Tape_add 45 = .ok (.iinc 2 (-8), 3) := by decide +kernel
theorem d_Tape_add_48 : decode og_c_Tape_add 48 = .ok (.goto (-45), 3) := by decide +kernel
theorem d_Tape_add_51 : decode og_c_Tape_add 51 = .ok (.return_, 1) := by decide +kernel
def m_Tape_add : og_Dn := og_den [6, 0] 3 2 (og_seq (og_set 2 (og_k 24)) (og_while (og_and (og_cc og_rge (og_loc 2) (og_k 0)) (og_cc og_rlt (og_get 1 (og_loc 0)) (og_len 1600 (og_fix (fun _ => 2) (og_loc 0))))) (og_seq (og_ast 1600 (og_fix (fun _ => 2) (og_loc 0)) (og_get 1 (og_loc 0)) (og_bop og_oand (og_bop og_oushr (og_loc 1) (og_loc 2)) (og_k 255))) (og_pop32 og_padd 1 (og_loc 0) (og_k 1))) (og_inc 2 (-8))))
set_option maxRecDepth 20000 in
theorem ok_Tape_add : og_MOK og_y_Tape_add og_c_Tape_add 3 2 1 [6, 0] m_Tape_add := og_method (b := 51) (lt' := [(0, 6), (1, 0)]) (by decide +kernel) (by decide) (by decide) (og_sdrop (lt' := [(0, 6), (1, 0), (2, 0)]) (lt2 := [(0, 6), (1, 0)]) (og_sseq (og_istore_n (i := 2) (lt' := [(0, 6), (1, 0), (2, 0)]) (og_bipush (by decide) d_Tape_add_0) (by rfl) (by decide) (by decide) d_Tape_add_2) (og_swhile (T := 19) (F := 51) (cp0 := 45) (og_cand (og_ccn og_n_ge (og_zlt (tgt := 51) (og_iload_n (i := 2) (j := 2) (by rfl) (by rfl) d_Tape_add_3) d_Tape_add_4 (by decide))) (og_ccn og_n_lt (og_ige (tgt := 51) (og_f_Tape_size (og_aload_n (i := 0) (t := 4) (j := 0) (by rfl) (by rfl) d_Tape_add_7) og_w168 d_Tape_add_8) (og_alen (N := 1600) (et := 0) (og_f_Tape_bytes (og_aload_n (i := 0) (t := 4) (j := 0) (by rfl) (by rfl) d_Tape_add_11) og_w165 d_Tape_add_12) (by rfl) (by decide) d_Tape_add_15) d_Tape_add_16 (by decide)))) (og_sseq (og_iastore (N := 1600) (og_f_Tape_bytes (og_aload_n (i := 0) (t := 4) (j := 0) (by rfl) (by rfl) d_Tape_add_19) og_w165 d_Tape_add_20) (by rfl) (og_f_Tape_size (og_aload_n (i := 0) (t := 4) (j := 0) (by rfl) (by rfl) d_Tape_add_23) og_w168 d_Tape_add_24) (og_iand (og_iushr (og_iload_n (i := 1) (j := 1) (by rfl) (by rfl) d_Tape_add_27) (og_iload_n (i := 2) (j := 2) (by rfl) (by rfl) d_Tape_add_28) d_Tape_add_29) (og_sipush (by decide) d_Tape_add_30) d_Tape_add_33) d_Tape_add_34) (og_qadd_Tape_size (og_aload_n (i := 0) (t := 4) (j := 0) (by rfl) (by rfl) d_Tape_add_35) d_Tape_add_36 d_Tape_add_37 (og_iconst (by decide) d_Tape_add_40) d_Tape_add_41 og_w168 d_Tape_add_42)) (og_gS (b' := 3) (og_iinc (j := 2) (lt' := [(0, 6), (1, 0), (2, 0)]) (by rfl) (by decide) (by decide) d_Tape_add_45) d_Tape_add_48 (by decide)))) (by decide)) (fun _ => d_Tape_add_51)
abbrev og_c_OG_feed : ByteArray := prog_1_method_2_code
abbrev og_y_OG_feed : MethodName := ⟨"OpenGraves", "feed", "(IIIII)I"⟩
theorem v_OG_feed {own : String} {idx dep : Nat} (h : 2 + 1 ≤ dep) : og_sV own idx og_y_OG_feed og_c_OG_feed 6 0 2 dep 1 5 := ⟨⟨0, og_sl_OG, og_T_OG, 17, rfl, by decide, rfl⟩, og_w442, og_w443, og_w1, og_w444, ⟨by decide +kernel, by decide +kernel, by decide +kernel⟩, h, by decide⟩
theorem d_OG_feed_0 : decode og_c_OG_feed 0 = .ok (.aload_n 0, 1) := by decide +kernel
theorem d_OG_feed_1 : decode og_c_OG_feed 1 = .ok (.getfield 22, 3) := by decide +kernel
theorem d_OG_feed_4 : decode og_c_OG_feed 4 = .ok (.getfield 108, 3) := by decide +kernel
theorem d_OG_feed_7 : decode og_c_OG_feed 7 = .ok (.bipush 20, 2) := by decide +kernel
theorem d_OG_feed_9 : decode og_c_OG_feed 9 = .ok (.iadd, 1) := by decide +kernel
theorem d_OG_feed_10 : decode og_c_OG_feed 10 = .ok (.sipush 1600, 3) := by decide +kernel
theorem d_OG_feed_13 : decode og_c_OG_feed 13 = .ok (.if_icmp .le 9, 3) := by decide +kernel
theorem d_OG_feed_16 : decode og_c_OG_feed 16 = .ok (.aload_n 0, 1) := by decide +kernel
theorem d_OG_feed_17 : decode og_c_OG_feed 17 = .ok (.iconst 0, 1) := by decide +kernel
theorem d_OG_feed_18 : decode og_c_OG_feed 18 = .ok (.invokevirtual 111, 3) := by decide +kernel
theorem d_OG_feed_21 : decode og_c_OG_feed 21 = .ok (.ireturn, 1) := by decide +kernel
theorem d_OG_feed_22 : decode og_c_OG_feed 22 = .ok (.aload_n 0, 1) := by decide +kernel
theorem d_OG_feed_23 : decode og_c_OG_feed 23 = .ok (.getfield 22, 3) := by decide +kernel
theorem d_OG_feed_26 : decode og_c_OG_feed 26 = .ok (.iload_n 1, 1) := by decide +kernel
theorem d_OG_feed_27 : decode og_c_OG_feed 27 = .ok (.invokevirtual 115, 3) := by decide +kernel
theorem d_OG_feed_30 : decode og_c_OG_feed 30 = .ok (.aload_n 0, 1) := by decide +kernel
theorem d_OG_feed_31 : decode og_c_OG_feed 31 = .ok (.getfield 22, 3) := by decide +kernel
theorem d_OG_feed_34 : decode og_c_OG_feed 34 = .ok (.iload_n 2, 1) := by decide +kernel
theorem d_OG_feed_35 : decode og_c_OG_feed 35 = .ok (.invokevirtual 115, 3) := by decide +kernel
theorem d_OG_feed_38 : decode og_c_OG_feed 38 = .ok (.aload_n 0, 1) := by decide +kernel
theorem d_OG_feed_39 : decode og_c_OG_feed 39 = .ok (.getfield 22, 3) := by decide +kernel
theorem d_OG_feed_42 : decode og_c_OG_feed 42 = .ok (.iload_n 3, 1) := by decide +kernel
theorem d_OG_feed_43 : decode og_c_OG_feed 43 = .ok (.invokevirtual 115, 3) := by decide +kernel
theorem d_OG_feed_46 : decode og_c_OG_feed 46 = .ok (.aload_n 0, 1) := by decide +kernel
theorem d_OG_feed_47 : decode og_c_OG_feed 47 = .ok (.getfield 22, 3) := by decide +kernel
theorem d_OG_feed_50 : decode og_c_OG_feed 50 = .ok (.iload 4, 2) := by decide +kernel
theorem d_OG_feed_52 : decode og_c_OG_feed 52 = .ok (.invokevirtual 115, 3) := by decide +kernel
theorem d_OG_feed_55 : decode og_c_OG_feed 55 = .ok (.aload_n 0, 1) := by decide +kernel
theorem d_OG_feed_56 : decode og_c_OG_feed 56 = .ok (.getfield 22, 3) := by decide +kernel
theorem d_OG_feed_59 : decode og_c_OG_feed 59 = .ok (.iload 5, 2) := by decide +kernel
theorem d_OG_feed_61 : decode og_c_OG_feed 61 = .ok (.invokevirtual 115, 3) := by decide +kernel
theorem d_OG_feed_64 : decode og_c_OG_feed 64 = .ok (.aload_n 0, 1) := by decide +kernel
theorem d_OG_feed_65 : decode og_c_OG_feed 65 = .ok (.getfield 22, 3) := by decide +kernel
theorem d_OG_feed_68 : decode og_c_OG_feed 68 = .ok (.getfield 108, 3) := by decide +kernel
theorem d_OG_feed_71 : decode og_c_OG_feed 71 = .ok (.ireturn, 1) := by decide +kernel
def m_OG_feed : og_Dn := og_den [5, 0, 0, 0, 0, 0] 6 0 (og_seq (og_if (og_cc og_rgt (og_add (og_get 1 (og_fix (fun _ => 1) (og_loc 0))) (og_k 20)) (og_k 1600)) (og_ret (og_call m_OG_refuse [og_loc 0, og_k 0])) (og_skip)) (og_seq (og_exp (og_call m_Tape_add [og_fix (fun _ => 1) (og_loc 0), og_loc 1])) (og_seq (og_exp (og_call m_Tape_add [og_fix (fun _ => 1) (og_loc 0), og_loc 2])) (og_seq (og_exp (og_call m_Tape_add [og_fix (fun _ => 1) (og_loc 0), og_loc 3])) (og_seq (og_exp (og_call m_Tape_add [og_fix (fun _ => 1) (og_loc 0), og_loc 4])) (og_seq (og_exp (og_call m_Tape_add [og_fix (fun _ => 1) (og_loc 0), og_loc 5])) (og_ret (og_get 1 (og_fix (fun _ => 1) (og_loc 0))))))))))
set_option maxRecDepth 20000 in
theorem ok_OG_feed : og_MOK og_y_OG_feed og_c_OG_feed 6 0 2 [5, 0, 0, 0, 0, 0] m_OG_feed := og_method (b := 0) (lt' := []) (by decide +kernel) (by decide) (by decide) (og_sseq (og_sif (T := 16) (F := 22) (og_ccn og_n_gt (og_ile (tgt := 22) (og_iadd (og_f_Tape_size_N (og_f_OG_tape (og_aload_n (i := 0) (t := 3) (j := 0) (by rfl) (by rfl) d_OG_feed_0) og_w389 d_OG_feed_1) og_w167 d_OG_feed_4) (og_bipush (by decide) d_OG_feed_7) d_OG_feed_9) (og_sipush (by decide) d_OG_feed_10) d_OG_feed_13 (by decide))) (og_sreti (og_callVi (og_acons (og_aload_n (i := 0) (t := 3) (j := 0) (by rfl) (by rfl) d_OG_feed_16) (og_acons (og_iconst (by decide) d_OG_feed_17) (og_anil))) (by decide) ok_OG_refuse (v_OG_refuse (by decide)) og_w445 d_OG_feed_18) d_OG_feed_21) (og_sskip)) (og_sseq (og_callVv (og_acons (og_f_OG_tape (og_aload_n (i := 0) (t := 3) (j := 0) (by rfl) (by rfl) d_OG_feed_22) og_w389 d_OG_feed_23) (og_acons (og_iload_n (i := 1) (j := 1) (by rfl) (by rfl) d_OG_feed_26) (og_anil))) ok_Tape_add (v_Tape_add (by decide)) og_w449 d_OG_feed_27) (og_sseq (og_callVv (og_acons (og_f_OG_tape (og_aload_n (i := 0) (t := 3) (j := 0) (by rfl) (by rfl) d_OG_feed_30) og_w389 d_OG_feed_31) (og_acons (og_iload_n (i := 2) (j := 2) (by rfl) (by rfl) d_OG_feed_34) (og_anil))) ok_Tape_add (v_Tape_add (by decide)) og_w449 d_OG_feed_35) (og_sseq (og_callVv (og_acons (og_f_OG_tape (og_aload_n (i := 0) (t := 3) (j := 0) (by rfl) (by rfl) d_OG_feed_38) og_w389 d_OG_feed_39) (og_acons (og_iload_n (i := 3) (j := 3) (by rfl) (by rfl) d_OG_feed_42) (og_anil))) ok_Tape_add (v_Tape_add (by decide)) og_w449 d_OG_feed_43) (og_sseq (og_callVv (og_acons (og_f_OG_tape (og_aload_n (i := 0) (t := 3) (j := 0) (by rfl) (by rfl) d_OG_feed_46) og_w389 d_OG_feed_47) (og_acons (og_iload (i := 4) (j := 4) (by rfl) d_OG_feed_50) (og_anil))) ok_Tape_add (v_Tape_add (by decide)) og_w449 d_OG_feed_52) (og_sseq (og_callVv (og_acons (og_f_OG_tape (og_aload_n (i := 0) (t := 3) (j := 0) (by rfl) (by rfl) d_OG_feed_55) og_w389 d_OG_feed_56) (og_acons (og_iload (i := 5) (j := 5) (by rfl) d_OG_feed_59) (og_anil))) ok_Tape_add (v_Tape_add (by decide)) og_w449 d_OG_feed_61) (og_sreti (og_f_Tape_size_N (og_f_OG_tape (og_aload_n (i := 0) (t := 3) (j := 0) (by rfl) (by rfl) d_OG_feed_64) og_w389 d_OG_feed_65) og_w167 d_OG_feed_68) d_OG_feed_71))))))) (fun h => by cases h)
abbrev og_c_OG_end : ByteArray := prog_1_method_3_code
abbrev og_y_OG_end : MethodName := ⟨"OpenGraves", "end", "(I)Z"⟩
theorem v_OG_end {own : String} {idx dep : Nat} (h : 2 + 1 ≤ dep) : og_sV own idx og_y_OG_end og_c_OG_end 2 3 2 dep 1 1 := ⟨⟨0, og_sl_OG, og_T_OG, 17, rfl, by decide, rfl⟩, og_w454, og_w455, og_w1, og_w456, ⟨by decide +kernel, by decide +kernel, by decide +kernel⟩, h, by decide⟩
theorem d_OG_end_0 : decode og_c_OG_end 0 = .ok (.iload_n 1, 1) := by decide +kernel
theorem d_OG_end_1 : decode og_c_OG_end 1 = .ok (.ifCond .lt 14, 3) := by decide +kernel
theorem d_OG_end_4 : decode og_c_OG_end 4 = .ok (.iload_n 1, 1) := by decide +kernel
theorem d_OG_end_5 : decode og_c_OG_end 5 = .ok (.aload_n 0, 1) := by decide +kernel
theorem d_OG_end_6 : decode og_c_OG_end 6 = .ok (.getfield 22, 3) := by decide +kernel
theorem d_OG_end_9 : decode og_c_OG_end 9 = .ok (.getfield 108, 3) := by decide +kernel
theorem d_OG_end_12 : decode og_c_OG_end 12 = .ok (.if_icmp .le 11, 3) := by decide +kernel
theorem d_OG_end_15 : decode og_c_OG_end 15 = .ok (.aload_n 0, 1) := by decide +kernel
theorem d_OG_end_16 : decode og_c_OG_end 16 = .ok (.iconst 0, 1) := by decide +kernel
theorem d_OG_end_17 : decode og_c_OG_end 17 = .ok (.invokevirtual 111, 3) := by decide +kernel
theorem d_OG_end_20 : decode og_c_OG_end 20 = .ok (.pop, 1) := by decide +kernel
theorem d_OG_end_21 : decode og_c_OG_end 21 = .ok (.iconst 0, 1) := by decide +kernel
theorem d_OG_end_22 : decode og_c_OG_end 22 = .ok (.ireturn, 1) := by decide +kernel
theorem d_OG_end_23 : decode og_c_OG_end 23 = .ok (.aload_n 0, 1) := by decide +kernel
theorem d_OG_end_24 : decode og_c_OG_end 24 = .ok (.getfield 22, 3) := by decide +kernel
theorem d_OG_end_27 : decode og_c_OG_end 27 = .ok (.iload_n 1, 1) := by decide +kernel
theorem d_OG_end_28 : decode og_c_OG_end 28 = .ok (.putfield 108, 3) := by decide +kernel
theorem d_OG_end_31 : decode og_c_OG_end 31 = .ok (.iconst 1, 1) := by decide +kernel
theorem d_OG_end_32 : decode og_c_OG_end 32 = .ok (.ireturn, 1) := by decide +kernel
def m_OG_end : og_Dn := og_den [5, 0] 2 3 (og_seq (og_if (og_or (og_cc og_rlt (og_loc 1) (og_k 0)) (og_cc og_rgt (og_loc 1) (og_get 1 (og_fix (fun _ => 1) (og_loc 0))))) (og_seq (og_exp (og_call m_OG_refuse [og_loc 0, og_k 0])) (og_retz (og_k 0))) (og_skip)) (og_seq (og_putf 1 (og_fix (fun _ => 1) (og_loc 0)) (og_loc 1)) (og_retz (og_k 1))))
set_option maxRecDepth 20000 in
theorem ok_OG_end : og_MOK og_y_OG_end og_c_OG_end 2 3 2 [5, 0] m_OG_end := og_method (b := 0) (lt' := []) (by decide +kernel) (by decide) (by decide) (og_sseq (og_sif (T := 15) (F := 23) (og_cor (og_zlt (tgt := 15) (og_iload_n (i := 1) (j := 1) (by rfl) (by rfl) d_OG_end_0) d_OG_end_1 (by decide)) (og_ccn og_n_gt (og_ile (tgt := 23) (og_iload_n (i := 1) (j := 1) (by rfl) (by rfl) d_OG_end_4) (og_f_Tape_size_N (og_f_OG_tape (og_aload_n (i := 0) (t := 3) (j := 0) (by rfl) (by rfl) d_OG_end_5) og_w389 d_OG_end_6) og_w167 d_OG_end_9) d_OG_end_12 (by decide)))) (og_sseq (og_spop (og_callVi (og_acons (og_aload_n (i := 0) (t := 3) (j := 0) (by rfl) (by rfl) d_OG_end_15) (og_acons (og_iconst (by decide) d_OG_end_16) (og_anil))) (by decide) ok_OG_refuse (v_OG_refuse (by decide)) og_w445 d_OG_end_17) d_OG_end_20) (og_sretz (og_iconst (by decide) d_OG_end_21) d_OG_end_22)) (og_sskip)) (og_sseq (og_p_Tape_size_N (og_f_OG_tape (og_aload_n (i := 0) (t := 3) (j := 0) (by rfl) (by rfl) d_OG_end_23) og_w389 d_OG_end_24) (og_iload_n (i := 1) (j := 1) (by rfl) (by rfl) d_OG_end_27) og_w167 d_OG_end_28) (og_sretz (og_iconst (by decide) d_OG_end_31) d_OG_end_32))) (fun h => by cases h)
abbrev og_c_Yard_clear : ByteArray := prog_12_method_2_code
abbrev og_y_Yard_clear : MethodName := ⟨"OpenGraves$Yard", "clear", "()V"⟩
theorem v_Yard_clear {own : String} {idx dep : Nat} (h : 1 + 1 ≤ dep) : og_sV own idx og_y_Yard_clear og_c_Yard_clear 1 2 1 dep 12 0 := ⟨⟨11, og_sl_Yard, og_T_Yard, 13, rfl, by decide, rfl⟩, og_w466, og_w467, og_w3, og_w468, ⟨by decide +kernel, by decide +kernel, by decide +kernel⟩, h, by decide⟩
theorem d_Yard_clear_0 : decode og_c_Yard_clear 0 = .ok (.aload_n 0, 1) := by decide +kernel
theorem d_Yard_clear_1 : decode og_c_Yard_clear 1 = .ok (.iconst 0, 1) := by decide +kernel
theorem d_Yard_clear_2 : decode og_c_Yard_clear 2 = .ok (.putfield 39, 3) := by decide +kernel
theorem d_Yard_clear_5 : decode og_c_Yard_clear 5 = .ok (.aload_n 0, 1) := by decide +kernel
theorem d_Yard_clear_6 : decode og_c_Yard_clear 6 = .ok (.iconst 0, 1) := by decide +kernel
theorem d_Yard_clear_7 : decode og_c_Yard_clear 7 = .ok (.putfield 43, 3) := by decide +kernel
theorem d_Yard_clear_10 : decode og_c_Yard_clear 10 = .ok (.aload_n 0, 1) := by decide +kernel
theorem d_Yard_clear_11 : decode og_c_Yard_clear 11 = .ok (.iconst 0, 1) := by decide +kernel
theorem d_Yard_clear_12 : decode og_c_Yard_clear 12 = .ok (.putfield 46, 3) := by decide +kernel
theorem d_Yard_clear_15 : decode og_c_Yard_clear 15 = .ok (.aload_n 0, 1) := by decide +kernel
theorem d_Yard_clear_16 : decode og_c_Yard_clear 16 = .ok (.iconst 0, 1) := by decide +kernel
theorem d_Yard_clear_17 : decode og_c_Yard_clear 17 = .ok (.putfield 49, 3) := by decide +kernel
theorem d_Yard_clear_20 : decode og_c_Yard_clear 20 = .ok (.return_, 1) := by decide +kernel
def m_Yard_clear : og_Dn := og_den [16] 1 2 (og_seq (og_putf 0 (og_loc 0) (og_k 0)) (og_seq (og_putf 1 (og_loc 0) (og_k 0)) (og_seq (og_putf 2 (og_loc 0) (og_k 0)) (og_putf 3 (og_loc 0) (og_k 0)))))
set_option maxRecDepth 20000 in
theorem ok_Yard_clear : og_MOK og_y_Yard_clear og_c_Yard_clear 1 2 1 [16] m_Yard_clear := og_method (b := 20) (lt' := [(0, 16)]) (by decide +kernel) (by decide) (by decide) (og_sseq (og_p_Yard_graves (og_aload_n (i := 0) (t := 14) (j := 0) (by rfl) (by rfl) d_Yard_clear_0) (og_iconst (by decide) d_Yard_clear_1) og_w41 d_Yard_clear_2) (og_sseq (og_p_Yard_people (og_aload_n (i := 0) (t := 14) (j := 0) (by rfl) (by rfl) d_Yard_clear_5) (og_iconst (by decide) d_Yard_clear_6) og_w48 d_Yard_clear_7) (og_sseq (og_p_Yard_month (og_aload_n (i := 0) (t := 14) (j := 0) (by rfl) (by rfl) d_Yard_clear_10) (og_iconst (by decide) d_Yard_clear_11) og_w54 d_Yard_clear_12) (og_p_Yard_keptRows (og_aload_n (i := 0) (t := 14) (j := 0) (by rfl) (by rfl) d_Yard_clear_15) (og_iconst (by decide) d_Yard_clear_16) og_w59 d_Yard_clear_17)))) (fun _ => d_Yard_clear_20)
abbrev og_c_Script_clear : ByteArray := prog_9_method_2_code
abbrev og_y_Script_clear : MethodName := ⟨"OpenGraves$Script", "clear", "()V"⟩
theorem v_Script_clear {own : String} {idx dep : Nat} (h : 1 + 1 ≤ dep) : og_sV own idx og_y_Script_clear og_c_Script_clear 2 2 1 dep 11 0 := ⟨⟨10, og_sl_Script, og_T_Script, 4, rfl, by decide, rfl⟩, og_w470, og_w471, og_w4, og_w472, ⟨by decide +kernel, by decide +kernel, by decide +kernel⟩, h, by decide⟩
theorem d_Script_clear_0 : decode og_c_Script_clear 0 = .ok (.aload_n 0, 1) := by decide +kernel
theorem d_Script_clear_1 : decode og_c_Script_clear 1 = .ok (.iconst 0, 1) := by decide +kernel
theorem d_Script_clear_2 : decode og_c_Script_clear 2 = .ok (.putfield 21, 3) := by decide +kernel
theorem d_Script_clear_5 : decode og_c_Script_clear 5 = .ok (.iconst 0, 1) := by decide +kernel
theorem d_Script_clear_6 : decode og_c_Script_clear 6 = .ok (.istore_n 1, 1) := by decide +kernel
theorem d_Script_clear_7 : decode og_c_Script_clear 7 = .ok (.iload_n 1, 1) := by decide +kernel
theorem d_Script_clear_8 : decode og_c_Script_clear 8 = .ok (.bipush 13, 2) := by decide +kernel
theorem d_Script_clear_10 : decode og_c_Script_clear 10 = .ok (.if_icmp .gt 23, 3) := by decide +kernel
theorem d_Script_clear_13 : decode og_c_Script_clear 13 = .ok (.aload_n 0, 1) := by decide +kernel
theorem d_Script_clear_14 : decode og_c_Script_clear 14 = .ok (.getfield 15, 3) := by decide +kernel
theorem d_Script_clear_17 : decode og_c_Script_clear 17 = .ok (.iload_n 1, 1) := by decide +kernel
theorem d_Script_clear_18 : decode og_c_Script_clear 18 = .ok (.iconst 0, 1) := by decide +kernel
theorem d_Script_clear_19 : decode og_c_Script_clear 19 = .ok (.iastore, 1) := by decide +kernel
theorem d_Script_clear_20 : decode og_c_Script_clear 20 = .ok (.aload_n 0, 1) := by decide +kernel
theorem d_Script_clear_21 : decode og_c_Script_clear 21 = .ok (.getfield 18, 3) := by decide +kernel
theorem d_Script_clear_24 : decode og_c_Script_clear 24 = .ok (.iload_n 1, 1) := by decide +kernel
theorem d_Script_clear_25 : decode og_c_Script_clear 25 = .ok (.iconst 0, 1) := by decide +kernel
theorem d_Script_clear_26 : decode og_c_Script_clear 26 = .ok (.iastore, 1) := by decide +kernel
theorem d_Script_clear_27 : decode og_c_Script_clear 27 = .ok (.iinc 1 1, 3) := by decide +kernel
theorem d_Script_clear_30 : decode og_c_Script_clear 30 = .ok (.goto (-23), 3) := by decide +kernel
theorem d_Script_clear_33 : decode og_c_Script_clear 33 = .ok (.return_, 1) := by decide +kernel
def m_Script_clear : og_Dn := og_den [15] 2 2 (og_seq (og_putf 3 (og_loc 0) (og_k 0)) (og_seq (og_set 1 (og_k 0)) (og_while (og_cc og_rle (og_loc 1) (og_k 13)) (og_seq (og_ast 14 (og_fix (fun i => i + 2) (og_loc 0)) (og_loc 1) (og_k 0)) (og_ast 14 (og_fix (fun i => i + 3) (og_loc 0)) (og_loc 1) (og_k 0))) (og_inc 1 1))))
set_option maxRecDepth 20000 in
theorem ok_Script_clear : og_MOK og_y_Script_clear og_c_Script_clear 2 2 1 [15] m_Script_clear := og_method (b := 33) (lt' := [(0, 15)]) (by decide +kernel) (by decide) (by decide) (og_sseq (og_p_Script_size (og_aload_n (i := 0) (t := 13) (j := 0) (by rfl) (by rfl) d_Script_clear_0) (og_iconst (by decide) d_Script_clear_1) og_w137 d_Script_clear_2) (og_sdrop (lt' := [(0, 15), (1, 0)]) (lt2 := [(0, 15)]) (og_sseq (og_istore_n (i := 1) (lt' := [(0, 15), (1, 0)]) (og_iconst (by decide) d_Script_clear_5) (by rfl) (by decide) (by decide) d_Script_clear_6) (og_swhile (T := 13) (F := 33) (cp0 := 27) (og_ccn og_n_le (og_igt (tgt := 33) (og_iload_n (i := 1) (j := 1) (by rfl) (by rfl) d_Script_clear_7) (og_bipush (by decide) d_Script_clear_8) d_Script_clear_10 (by decide))) (og_sseq (og_iastore (N := 14) (og_f_Script_from (og_aload_n (i := 0) (t := 13) (j := 0) (by rfl) (by rfl) d_Script_clear_13) og_w133 d_Script_clear_14) (by rfl) (og_iload_n (i := 1) (j := 1) (by rfl) (by rfl) d_Script_clear_17) (og_iconst (by decide) d_Script_clear_18) d_Script_clear_19) (og_iastore (N := 14) (og_f_Script_to (og_aload_n (i := 0) (t := 13) (j := 0) (by rfl) (by rfl) d_Script_clear_20) og_w135 d_Script_clear_21) (by rfl) (og_iload_n (i := 1) (j := 1) (by rfl) (by rfl) d_Script_clear_24) (og_iconst (by decide) d_Script_clear_25) d_Script_clear_26)) (og_gS (b' := 7) (og_iinc (j := 1) (lt' := [(0, 15), (1, 0)]) (by rfl) (by decide) (by decide) d_Script_clear_27) d_Script_clear_30 (by decide)))) (by decide))) (fun _ => d_Script_clear_33)
abbrev og_c_Tape_at : ByteArray := prog_10_method_3_code
abbrev og_y_Tape_at : MethodName := ⟨"OpenGraves$Tape", "at", "(I)I"⟩
theorem v_Tape_at {own : String} {idx dep : Nat} (h : 1 + 1 ≤ dep) : og_sV own idx og_y_Tape_at og_c_Tape_at 2 0 1 dep 2 1 := ⟨⟨1, og_sl_Tape, og_T_Tape, 2, rfl, by decide, rfl⟩, og_w482, og_w483, og_w5, og_w484, ⟨by decide +kernel, by decide +kernel, by decide +kernel⟩, h, by decide⟩
theorem d_Tape_at_0 : decode og_c_Tape_at 0 = .ok (.iload_n 1, 1) := by decide +kernel
theorem d_Tape_at_1 : decode og_c_Tape_at 1 = .ok (.ifCond .lt 29, 3) := by decide +kernel
theorem d_Tape_at_4 : decode og_c_Tape_at 4 = .ok (.iload_n 1, 1) := by decide +kernel
theorem d_Tape_at_5 : decode og_c_Tape_at 5 = .ok (.aload_n 0, 1) := by decide +kernel
theorem d_Tape_at_6 : decode og_c_Tape_at 6 = .ok (.getfield 15, 3) := by decide +kernel
theorem d_Tape_at_9 : decode og_c_Tape_at 9 = .ok (.if_icmp .ge 21, 3) := by decide +kernel
theorem d_Tape_at_12 : decode og_c_Tape_at 12 = .ok (.iload_n 1, 1) := by decide +kernel
theorem d_Tape_at_13 : decode og_c_Tape_at 13 = .ok (.aload_n 0, 1) := by decide +kernel
theorem d_Tape_at_14 : decode og_c_Tape_at 14 = .ok (.getfield 9, 3) := by decide +kernel
theorem d_Tape_at_17 : decode og_c_Tape_at 17 = .ok (.arraylength, 1) := by decide +kernel
theorem d_Tape_at_18 : decode og_c_Tape_at 18 = .ok (.if_icmp .ge 12, 3) := by decide +kernel
theorem d_Tape_at_21 : decode og_c_Tape_at 21 = .ok (.aload_n 0, 1) := by decide +kernel
theorem d_Tape_at_22 : decode og_c_Tape_at 22 = .ok (.getfield 9, 3) := by decide +kernel
theorem d_Tape_at_25 : decode og_c_Tape_at 25 = .ok (.iload_n 1, 1) := by decide +kernel
theorem d_Tape_at_26 : decode og_c_Tape_at 26 = .ok (.iaload, 1) := by decide +kernel
theorem d_Tape_at_27 : decode og_c_Tape_at 27 = .ok (.goto 4, 3) := by decide +kernel
theorem d_Tape_at_30 : decode og_c_Tape_at 30 = .ok (.iconst (-1), 1) := by decide +kernel
theorem d_Tape_at_31 : decode og_c_Tape_at 31 = .ok (.ireturn, 1) := by decide +kernel
def m_Tape_at : og_Dn := og_den [6, 0] 2 0 (og_ret (og_ei (og_and (og_and (og_cc og_rge (og_loc 1) (og_k 0)) (og_cc og_rlt (og_loc 1) (og_get 1 (og_loc 0)))) (og_cc og_rlt (og_loc 1) (og_len 1600 (og_fix (fun _ => 2) (og_loc 0))))) (og_ald 1600 (og_fix (fun _ => 2) (og_loc 0)) (og_loc 1)) (og_k (-1))))
set_option maxRecDepth 20000 in
theorem ok_Tape_at : og_MOK og_y_Tape_at og_c_Tape_at 2 0 1 [6, 0] m_Tape_at := og_method (b := 0) (lt' := []) (by decide +kernel) (by decide) (by decide) (og_sreti (og_eite (og_cand (og_cand (og_ccn og_n_ge (og_zlt (tgt := 30) (og_iload_n (i := 1) (j := 1) (by rfl) (by rfl) d_Tape_at_0) d_Tape_at_1 (by decide))) (og_ccn og_n_lt (og_ige (tgt := 30) (og_iload_n (i := 1) (j := 1) (by rfl) (by rfl) d_Tape_at_4) (og_f_Tape_size (og_aload_n (i := 0) (t := 4) (j := 0) (by rfl) (by rfl) d_Tape_at_5) og_w168 d_Tape_at_6) d_Tape_at_9 (by decide)))) (og_ccn og_n_lt (og_ige (tgt := 30) (og_iload_n (i := 1) (j := 1) (by rfl) (by rfl) d_Tape_at_12) (og_alen (N := 1600) (et := 0) (og_f_Tape_bytes (og_aload_n (i := 0) (t := 4) (j := 0) (by rfl) (by rfl) d_Tape_at_13) og_w165 d_Tape_at_14) (by rfl) (by decide) d_Tape_at_17) d_Tape_at_18 (by decide)))) (og_iald (N := 1600) (og_f_Tape_bytes (og_aload_n (i := 0) (t := 4) (j := 0) (by rfl) (by rfl) d_Tape_at_21) og_w165 d_Tape_at_22) (by rfl) (og_iload_n (i := 1) (j := 1) (by rfl) (by rfl) d_Tape_at_25) d_Tape_at_26) d_Tape_at_27 (by decide) (og_iconst (by decide) d_Tape_at_30)) d_Tape_at_31) (fun h => by cases h)
abbrev og_c_Tokens_isBlank : ByteArray := prog_11_method_7_code
abbrev og_y_Tokens_isBlank : MethodName := ⟨"OpenGraves$Tokens", "isBlank", "(I)Z"⟩
theorem v_Tokens_isBlank {dep : Nat} (h : 1 + 1 ≤ dep) : og_sS og_y_Tokens_isBlank og_c_Tokens_isBlank 1 3 1 dep 1 := ⟨og_w486, og_w6, og_w487, ⟨by decide +kernel, by decide +kernel, by decide +kernel⟩, h, by decide⟩
theorem d_Tokens_isBlank_0 : decode og_c_Tokens_isBlank 0 = .ok (.iload_n 0, 1) := by decide +kernel
theorem d_Tokens_isBlank_1 : decode og_c_Tokens_isBlank 1 = .ok (.bipush 10, 2) := by decide +kernel
theorem d_Tokens_isBlank_3 : decode og_c_Tokens_isBlank 3 = .ok (.if_icmp .eq 9, 3) := by decide +kernel
theorem d_Tokens_isBlank_6 : decode og_c_Tokens_isBlank 6 = .ok (.iload_n 0, 1) := by decide +kernel
theorem d_Tokens_isBlank_7 : decode og_c_Tokens_isBlank 7 = .ok (.bipush 32, 2) := by decide +kernel
theorem d_Tokens_isBlank_9 : decode og_c_Tokens_isBlank 9 = .ok (.if_icmp .ne 7, 3) := by decide +kernel
theorem d_Tokens_isBlank_12 : decode og_c_Tokens_isBlank 12 = .ok (.iconst 1, 1) := by decide +kernel
theorem d_Tokens_isBlank_13 : decode og_c_Tokens_isBlank 13 = .ok (.goto 4, 3) := by decide +kernel
theorem d_Tokens_isBlank_16 : decode og_c_Tokens_isBlank 16 = .ok (.iconst 0, 1) := by decide +kernel
theorem d_Tokens_isBlank_17 : decode og_c_Tokens_isBlank 17 = .ok (.ireturn, 1) := by decide +kernel
def m_Tokens_isBlank : og_Dn := og_den [0] 1 3 (og_retz (og_ec (og_or (og_cc og_req (og_loc 0) (og_k 10)) (og_cc og_req (og_loc 0) (og_k 32)))))
set_option maxRecDepth 20000 in
theorem ok_Tokens_isBlank : og_MOK og_y_Tokens_isBlank og_c_Tokens_isBlank 1 3 1 [0] m_Tokens_isBlank := og_method (b := 0) (lt' := []) (by decide +kernel) (by decide) (by decide) (og_sretz (og_econd (b := 0) (og_cor (og_ieq (tgt := 12) (og_iload_n (i := 0) (j := 0) (by rfl) (by rfl) d_Tokens_isBlank_0) (og_bipush (by decide) d_Tokens_isBlank_1) d_Tokens_isBlank_3 (by decide)) (og_ccn og_n_eq (og_ine (tgt := 16) (og_iload_n (i := 0) (j := 0) (by rfl) (by rfl) d_Tokens_isBlank_6) (og_bipush (by decide) d_Tokens_isBlank_7) d_Tokens_isBlank_9 (by decide)))) d_Tokens_isBlank_12 d_Tokens_isBlank_13 (by decide) d_Tokens_isBlank_16 (by rfl)) d_Tokens_isBlank_17) (fun h => by cases h)
abbrev og_c_Tokens_isLetter : ByteArray := prog_11_method_8_code
abbrev og_y_Tokens_isLetter : MethodName := ⟨"OpenGraves$Tokens", "isLetter", "(I)Z"⟩
theorem v_Tokens_isLetter {dep : Nat} (h : 1 + 1 ≤ dep) : og_sS og_y_Tokens_isLetter og_c_Tokens_isLetter 1 3 1 dep 1 := ⟨og_w489, og_w6, og_w490, ⟨by decide +kernel, by decide +kernel, by decide +kernel⟩, h, by decide⟩
theorem d_Tokens_isLetter_0 : decode og_c_Tokens_isLetter 0 = .ok (.iload_n 0, 1) := by decide +kernel
theorem d_Tokens_isLetter_1 : decode og_c_Tokens_isLetter 1 = .ok (.bipush 97, 2) := by decide +kernel
theorem d_Tokens_isLetter_3 : decode og_c_Tokens_isLetter 3 = .ok (.if_icmp .lt 13, 3) := by decide +kernel
theorem d_Tokens_isLetter_6 : decode og_c_Tokens_isLetter 6 = .ok (.iload_n 0, 1) := by decide +kernel
theorem d_Tokens_isLetter_7 : decode og_c_Tokens_isLetter 7 = .ok (.bipush 122, 2) := by decide +kernel
theorem d_Tokens_isLetter_9 : decode og_c_Tokens_isLetter 9 = .ok (.if_icmp .gt 7, 3) := by decide +kernel
theorem d_Tokens_isLetter_12 : decode og_c_Tokens_isLetter 12 = .ok (.iconst 1, 1) := by decide +kernel
theorem d_Tokens_isLetter_13 : decode og_c_Tokens_isLetter 13 = .ok (.goto 4, 3) := by decide +kernel
theorem d_Tokens_isLetter_16 : decode og_c_Tokens_isLetter 16 = .ok (.iconst 0, 1) := by decide +kernel
theorem d_Tokens_isLetter_17 : decode og_c_Tokens_isLetter 17 = .ok (.ireturn, 1) := by decide +kernel
def m_Tokens_isLetter : og_Dn := og_den [0] 1 3 (og_retz (og_ec (og_and (og_cc og_rge (og_loc 0) (og_k 97)) (og_cc og_rle (og_loc 0) (og_k 122)))))
set_option maxRecDepth 20000 in
theorem ok_Tokens_isLetter : og_MOK og_y_Tokens_isLetter og_c_Tokens_isLetter 1 3 1 [0] m_Tokens_isLetter := og_method (b := 0) (lt' := []) (by decide +kernel) (by decide) (by decide) (og_sretz (og_econd (b := 0) (og_cand (og_ccn og_n_ge (og_ilt (tgt := 16) (og_iload_n (i := 0) (j := 0) (by rfl) (by rfl) d_Tokens_isLetter_0) (og_bipush (by decide) d_Tokens_isLetter_1) d_Tokens_isLetter_3 (by decide))) (og_ccn og_n_le (og_igt (tgt := 16) (og_iload_n (i := 0) (j := 0) (by rfl) (by rfl) d_Tokens_isLetter_6) (og_bipush (by decide) d_Tokens_isLetter_7) d_Tokens_isLetter_9 (by decide)))) d_Tokens_isLetter_12 d_Tokens_isLetter_13 (by decide) d_Tokens_isLetter_16 (by rfl)) d_Tokens_isLetter_17) (fun h => by cases h)
abbrev og_c_Tokens_wordNumber : ByteArray := prog_11_method_6_code
abbrev og_y_Tokens_wordNumber : MethodName := ⟨"OpenGraves$Tokens", "wordNumber", "()I"⟩
theorem v_Tokens_wordNumber {own : String} {idx dep : Nat} (h : 1 + 1 ≤ dep) : og_sV own idx og_y_Tokens_wordNumber og_c_Tokens_wordNumber 2 0 1 dep 3 0 := ⟨⟨2, og_sl_Tokens, og_T_Tokens, 10, rfl, by decide, rfl⟩, og_w497, (og_memP (⟨"OpenGraves$Tokens", "wordNumber", "()I"⟩, 10) (List.mem_of_getElem? (i := 2) (by decide +kernel))), og_w6, og_w498, ⟨by decide +kernel, by decide +kernel, by decide +kernel⟩, h, by decide⟩
theorem d_Tokens_wordNumber_0 : decode og_c_Tokens_wordNumber 0 = .ok (.iconst 0, 1) := by decide +kernel
theorem d_Tokens_wordNumber_1 : decode og_c_Tokens_wordNumber 1 = .ok (.istore_n 1, 1) := by decide +kernel
theorem d_Tokens_wordNumber_2 : decode og_c_Tokens_wordNumber 2 = .ok (.iload_n 1, 1) := by decide +kernel
theorem d_Tokens_wordNumber_3 : decode og_c_Tokens_wordNumber 3 = .ok (.bipush 31, 2) := by decide +kernel
theorem d_Tokens_wordNumber_5 : decode og_c_Tokens_wordNumber 5 = .ok (.if_icmp .ge 24, 3) := by decide +kernel
theorem d_Tokens_wordNumber_8 : decode og_c_Tokens_wordNumber 8 = .ok (.aload_n 0, 1) := by decide +kernel
theorem d_Tokens_wordNumber_9 : decode og_c_Tokens_wordNumber 9 = .ok (.getfield 19, 3) := by decide +kernel
theorem d_Tokens_wordNumber_12 : decode og_c_Tokens_wordNumber 12 = .ok (.iload_n 1, 1) := by decide +kernel
theorem d_Tokens_wordNumber_13 : decode og_c_Tokens_wordNumber 13 = .ok (.iaload, 1) := by decide +kernel
theorem d_Tokens_wordNumber_14 : decode og_c_Tokens_wordNumber 14 = .ok (.aload_n 0, 1) := by decide +kernel
theorem d_Tokens_wordNumber_15 : decode og_c_Tokens_wordNumber 15 = .ok (.getfield 77, 3) := by decide +kernel
theorem d_Tokens_wordNumber_18 : decode og_c_Tokens_wordNumber 18 = .ok (.if_icmp .ne 5, 3) := by decide +kernel
theorem d_Tokens_wordNumber_21 : decode og_c_Tokens_wordNumber 21 = .ok (.iload_n 1, 1) := by decide +kernel
theorem d_Tokens_wordNumber_22 : decode og_c_Tokens_wordNumber 22 = .ok (.ireturn, 1) := by decide +kernel
theorem d_Tokens_wordNumber_23 : decode og_c_Tokens_wordNumber 23 = .ok (.iinc 1 1, 3) := by decide +kernel
theorem d_Tokens_wordNumber_26 : decode og_c_Tokens_wordNumber 26 = .ok (.goto (-24), 3) := by decide +kernel
theorem d_Tokens_wordNumber_29 : decode og_c_Tokens_wordNumber 29 = .ok (.iconst (-1), 1) := by decide +kernel
theorem d_Tokens_wordNumber_30 : decode og_c_Tokens_wordNumber 30 = .ok (.ireturn, 1) := by decide +kernel
def m_Tokens_wordNumber : og_Dn := og_den [7] 2 0 (og_cut (og_seq (og_set 1 (og_k 0)) (og_while (og_cc og_rlt (og_loc 1) (og_k 31)) (og_if (og_cc og_req (og_ald 31 (og_fix (fun _ => 4) (og_loc 0)) (og_loc 1)) (og_get 6 (og_loc 0))) (og_ret (og_loc 1)) (og_skip)) (og_inc 1 1))) (og_ret (og_k (-1))))
set_option maxRecDepth 20000 in
theorem ok_Tokens_wordNumber : og_MOK og_y_Tokens_wordNumber og_c_Tokens_wordNumber 2 0 1 [7] m_Tokens_wordNumber := og_method (b := 0) (lt' := []) (by decide +kernel) (by decide) (by decide) (og_scut (og_sdrop (lt' := [(0, 7), (1, 0)]) (lt2 := [(0, 7)]) (og_sseq (og_istore_n (i := 1) (lt' := [(0, 7), (1, 0)]) (og_iconst (by decide) d_Tokens_wordNumber_0) (by rfl) (by decide) (by decide) d_Tokens_wordNumber_1) (og_swhile (T := 8) (F := 29) (cp0 := 23) (og_ccn og_n_lt (og_ige (tgt := 29) (og_iload_n (i := 1) (j := 1) (by rfl) (by rfl) d_Tokens_wordNumber_2) (og_bipush (by decide) d_Tokens_wordNumber_3) d_Tokens_wordNumber_5 (by decide))) (og_sif (T := 21) (F := 23) (og_ccn og_n_eq (og_ine (tgt := 23) (og_iald (N := 31) (og_f_Tokens_spellings (og_aload_n (i := 0) (t := 5) (j := 0) (by rfl) (by rfl) d_Tokens_wordNumber_8) og_w247 d_Tokens_wordNumber_9) (by rfl) (og_iload_n (i := 1) (j := 1) (by rfl) (by rfl) d_Tokens_wordNumber_12) d_Tokens_wordNumber_13) (og_f_Tokens_spelling (og_aload_n (i := 0) (t := 5) (j := 0) (by rfl) (by rfl) d_Tokens_wordNumber_14) og_w239 d_Tokens_wordNumber_15) d_Tokens_wordNumber_18 (by decide))) (og_sreti (og_iload_n (i := 1) (j := 1) (by rfl) (by rfl) d_Tokens_wordNumber_21) d_Tokens_wordNumber_22) (og_sskip)) (og_gS (b' := 2) (og_iinc (j := 1) (lt' := [(0, 7), (1, 0)]) (by rfl) (by decide) (by decide) d_Tokens_wordNumber_23) d_Tokens_wordNumber_26 (by decide)))) (by decide)) (og_sreti (og_iconst (by decide) d_Tokens_wordNumber_29) d_Tokens_wordNumber_30)) (fun h => by cases h)
abbrev og_c_Tokens_isDigit : ByteArray := prog_11_method_9_code
abbrev og_y_Tokens_isDigit : MethodName := ⟨"OpenGraves$Tokens", "isDigit", "(I)Z"⟩
theorem v_Tokens_isDigit {dep : Nat} (h : 1 + 1 ≤ dep) : og_sS og_y_Tokens_isDigit og_c_Tokens_isDigit 1 3 1 dep 1 := ⟨og_w500, og_w6, og_w501, ⟨by decide +kernel, by decide +kernel, by decide +kernel⟩, h, by decide⟩
theorem d_Tokens_isDigit_0 : decode og_c_Tokens_isDigit 0 = .ok (.iload_n 0, 1) := by decide +kernel
theorem d_Tokens_isDigit_1 : decode og_c_Tokens_isDigit 1 = .ok (.bipush 48, 2) := by decide +kernel
theorem d_Tokens_isDigit_3 : decode og_c_Tokens_isDigit 3 = .ok (.if_icmp .lt 13, 3) := by decide +kernel
theorem d_Tokens_isDigit_6 : decode og_c_Tokens_isDigit 6 = .ok (.iload_n 0, 1) := by decide +kernel
theorem d_Tokens_isDigit_7 : decode og_c_Tokens_isDigit 7 = .ok (.bipush 57, 2) := by decide +kernel
theorem d_Tokens_isDigit_9 : decode og_c_Tokens_isDigit 9 = .ok (.if_icmp .gt 7, 3) := by decide +kernel
theorem d_Tokens_isDigit_12 : decode og_c_Tokens_isDigit 12 = .ok (.iconst 1, 1) := by decide +kernel
theorem d_Tokens_isDigit_13 : decode og_c_Tokens_isDigit 13 = .ok (.goto 4, 3) := by decide +kernel
theorem d_Tokens_isDigit_16 : decode og_c_Tokens_isDigit 16 = .ok (.iconst 0, 1) := by decide +kernel
theorem d_Tokens_isDigit_17 : decode og_c_Tokens_isDigit 17 = .ok (.ireturn, 1) := by decide +kernel
def m_Tokens_isDigit : og_Dn := og_den [0] 1 3 (og_retz (og_ec (og_and (og_cc og_rge (og_loc 0) (og_k 48)) (og_cc og_rle (og_loc 0) (og_k 57)))))
set_option maxRecDepth 20000 in
theorem ok_Tokens_isDigit : og_MOK og_y_Tokens_isDigit og_c_Tokens_isDigit 1 3 1 [0] m_Tokens_isDigit := og_method (b := 0) (lt' := []) (by decide +kernel) (by decide) (by decide) (og_sretz (og_econd (b := 0) (og_cand (og_ccn og_n_ge (og_ilt (tgt := 16) (og_iload_n (i := 0) (j := 0) (by rfl) (by rfl) d_Tokens_isDigit_0) (og_bipush (by decide) d_Tokens_isDigit_1) d_Tokens_isDigit_3 (by decide))) (og_ccn og_n_le (og_igt (tgt := 16) (og_iload_n (i := 0) (j := 0) (by rfl) (by rfl) d_Tokens_isDigit_6) (og_bipush (by decide) d_Tokens_isDigit_7) d_Tokens_isDigit_9 (by decide)))) d_Tokens_isDigit_12 d_Tokens_isDigit_13 (by decide) d_Tokens_isDigit_16 (by rfl)) d_Tokens_isDigit_17) (fun h => by cases h)
abbrev og_c_Tokens_readWord : ByteArray := prog_11_method_4_code
abbrev og_y_Tokens_readWord : MethodName := ⟨"OpenGraves$Tokens", "readWord", "()V"⟩
theorem v_Tokens_readWord {own : String} {idx dep : Nat} (h : 2 + 1 ≤ dep) : og_sV own idx og_y_Tokens_readWord og_c_Tokens_readWord 2 2 2 dep 3 0 := ⟨⟨2, og_sl_Tokens, og_T_Tokens, 10, rfl, by decide, rfl⟩, og_w493, (og_memP (⟨"OpenGraves$Tokens", "readWord", "()V"⟩, 10) (List.mem_of_getElem? (i := 1) (by decide +kernel))), og_w6, og_w494, ⟨by decide +kernel, by decide +kernel, by decide +kernel⟩, h, by decide⟩
theorem d_Tokens_readWord_0 : decode og_c_Tokens_readWord 0 = .ok (.aload_n 0, 1) := by decide +kernel
theorem d_Tokens_readWord_1 : decode og_c_Tokens_readWord 1 = .ok (.iconst 0, 1) := by decide +kernel
theorem d_Tokens_readWord_2 : decode og_c_Tokens_readWord 2 = .ok (.putfield 77, 3) := by decide +kernel
theorem d_Tokens_readWord_5 : decode og_c_Tokens_readWord 5 = .ok (.aload_n 0, 1) := by decide +kernel
theorem d_Tokens_readWord_6 : decode og_c_Tokens_readWord 6 = .ok (.getfield 35, 3) := by decide +kernel
theorem d_Tokens_readWord_9 : decode og_c_Tokens_readWord 9 = .ok (.aload_n 0, 1) := by decide +kernel
theorem d_Tokens_readWord_10 : decode og_c_Tokens_readWord 10 = .ok (.getfield 9, 3) := by decide +kernel
theorem d_Tokens_readWord_13 : decode og_c_Tokens_readWord 13 = .ok (.getfield 44, 3) := by decide +kernel
theorem d_Tokens_readWord_16 : decode og_c_Tokens_readWord 16 = .ok (.if_icmp .ge 75, 3) := by decide +kernel
theorem d_Tokens_readWord_19 : decode og_c_Tokens_readWord 19 = .ok (.aload_n 0, 1) := by decide +kernel
theorem d_Tokens_readWord_20 : decode og_c_Tokens_readWord 20 = .ok (.getfield 9, 3) := by decide +kernel
theorem d_Tokens_readWord_23 : decode og_c_Tokens_readWord 23 = .ok (.aload_n 0, 1) := by decide +kernel
theorem d_Tokens_readWord_24 : decode og_c_Tokens_readWord 24 = .ok (.getfield 35, 3) := by decide +kernel
theorem d_Tokens_readWord_27 : decode og_c_Tokens_readWord 27 = .ok (.invokevirtual 49, 3) := by decide +kernel
theorem d_Tokens_readWord_30 : decode og_c_Tokens_readWord 30 = .ok (.invokestatic 62, 3) := by decide +kernel
theorem d_Tokens_readWord_33 : decode og_c_Tokens_readWord 33 = .ok (.ifCond .eq 58, 3) := by decide +kernel
theorem d_Tokens_readWord_36 : decode og_c_Tokens_readWord 36 = .ok (.aload_n 0, 1) := by decide +kernel
theorem d_Tokens_readWord_37 : decode og_c_Tokens_readWord 37 = .ok (.getfield 35, 3) := by decide +kernel
theorem d_Tokens_readWord_40 : decode og_c_Tokens_readWord 40 = .ok (.aload_n 0, 1) := by decide +kernel
theorem d_Tokens_readWord_41 : decode og_c_Tokens_readWord 41 = .ok (.getfield 56, 3) := by decide +kernel
theorem d_Tokens_readWord_44 : decode og_c_Tokens_readWord 44 = .ok (.isub, 1) := by decide +kernel
theorem d_Tokens_readWord_45 : decode og_c_Tokens_readWord 45 = .ok (.bipush 6, 2) := by decide +kernel
theorem d_Tokens_readWord_47 : decode og_c_Tokens_readWord 47 = .ok (.if_icmp .ge 31, 3) := by decide +kernel
theorem d_Tokens_readWord_50 : decode og_c_Tokens_readWord 50 = .ok (.aload_n 0, 1) := by decide +kernel
theorem d_Tokens_readWord_51 : decode og_c_Tokens_readWord 51 = .ok (.bipush 27, 2) := by decide +kernel
theorem d_Tokens_readWord_53 : decode og_c_Tokens_readWord 53 = .ok (.aload_n 0, 1) := by decide +kernel
theorem d_Tokens_readWord_54 : decode og_c_Tokens_readWord 54 = .ok (.getfield 77, 3) := by decide +kernel
theorem d_Tokens_readWord_57 : decode og_c_Tokens_readWord 57 = .ok (.imul, 1) := by decide +kernel
theorem d_Tokens_readWord_58 : decode og_c_Tokens_readWord 58 = .ok (.aload_n 0, 1) := by decide +kernel
theorem d_Tokens_readWord_59 : decode og_c_Tokens_readWord 59 = .ok (.getfield 9, 3) := by decide +kernel
theorem d_Tokens_readWord_62 : decode og_c_Tokens_readWord 62 = .ok (.aload_n 0, 1) := by decide +kernel
theorem d_Tokens_readWord_63 : decode og_c_Tokens_readWord 63 = .ok (.getfield 35, 3) := by decide +kernel
theorem d_Tokens_readWord_66 : decode og_c_Tokens_readWord 66 = .ok (.invokevirtual 49, 3) := by decide +kernel
theorem d_Tokens_readWord_69 : decode og_c_Tokens_readWord 69 = .ok (.iadd, 1) := by decide +kernel
theorem d_Tokens_readWord_70 : decode og_c_Tokens_readWord 70 = .ok (.bipush 97, 2) := by decide +kernel
theorem d_Tokens_readWord_72 : decode og_c_Tokens_readWord 72 = .ok (.isub, 1) := by decide +kernel
theorem d_Tokens_readWord_73 : decode og_c_Tokens_readWord 73 = .ok (.iconst 1, 1) := by decide +kernel
theorem d_Tokens_readWord_74 : decode og_c_Tokens_readWord 74 = .ok (.iadd, 1) := by decide +kernel
theorem d_Tokens_readWord_75 : decode og_c_Tokens_readWord 75 = .ok (.putfield 77, 3) := by decide +kernel
theorem d_Tokens_readWord_78 : decode og_c_Tokens_readWord 78 = .ok (.aload_n 0, 1) := by decide +kernel
theorem d_Tokens_readWord_79 : decode og_c_Tokens_readWord 79 = .ok (.dup, 1) := by decide +kernel
theorem d_Tokens_readWord_80 : decode og_c_Tokens_readWord 80 = .ok (.getfield 35, 3) := by decide +kernel
theorem d_Tokens_readWord_83 : decode og_c_Tokens_readWord 83 = .ok (.iconst 1, 1) := by decide +kernel
theorem d_Tokens_readWord_84 : decode og_c_Tokens_readWord 84 = .ok (.iadd, 1) := by decide +kernel
theorem d_Tokens_readWord_85 : decode og_c_Tokens_readWord 85 = .ok (.putfield 35, 3) := by decide +kernel
theorem d_Tokens_readWord_88 : decode og_c_Tokens_readWord 88 = .ok (.goto (-83), 3) := by decide +kernel
theorem d_Tokens_readWord_91 : decode og_c_Tokens_readWord 91 = .ok (.aload_n 0, 1) := by decide +kernel
theorem d_Tokens_readWord_92 : decode og_c_Tokens_readWord 92 = .ok (.aload_n 0, 1) := by decide +kernel
theorem d_Tokens_readWord_93 : decode og_c_Tokens_readWord 93 = .ok (.getfield 35, 3) := by decide +kernel
theorem d_Tokens_readWord_96 : decode og_c_Tokens_readWord 96 = .ok (.aload_n 0, 1) := by decide +kernel
theorem d_Tokens_readWord_97 : decode og_c_Tokens_readWord 97 = .ok (.getfield 56, 3) := by decide +kernel
theorem d_Tokens_readWord_100 : decode og_c_Tokens_readWord 100 = .ok (.isub, 1) := by decide +kernel
theorem d_Tokens_readWord_101 : decode og_c_Tokens_readWord 101 = .ok (.putfield 80, 3) := by decide +kernel
theorem d_Tokens_readWord_104 : decode og_c_Tokens_readWord 104 = .ok (.aload_n 0, 1) := by decide +kernel
theorem d_Tokens_readWord_105 : decode og_c_Tokens_readWord 105 = .ok (.getfield 80, 3) := by decide +kernel
theorem d_Tokens_readWord_108 : decode og_c_Tokens_readWord 108 = .ok (.istore_n 1, 1) := by decide +kernel
theorem d_Tokens_readWord_109 : decode og_c_Tokens_readWord 109 = .ok (.iload_n 1, 1) := by decide +kernel
theorem d_Tokens_readWord_110 : decode og_c_Tokens_readWord 110 = .ok (.bipush 6, 2) := by decide +kernel
theorem d_Tokens_readWord_112 : decode og_c_Tokens_readWord 112 = .ok (.if_icmp .ge 20, 3) := by decide +kernel
theorem d_Tokens_readWord_115 : decode og_c_Tokens_readWord 115 = .ok (.aload_n 0, 1) := by decide +kernel
theorem d_Tokens_readWord_116 : decode og_c_Tokens_readWord 116 = .ok (.dup, 1) := by decide +kernel
theorem d_Tokens_readWord_117 : decode og_c_Tokens_readWord 117 = .ok (.getfield 77, 3) := by decide +kernel
theorem d_Tokens_readWord_120 : decode og_c_Tokens_readWord 120 = .ok (.bipush 27, 2) := by decide +kernel
theorem d_Tokens_readWord_122 : decode og_c_Tokens_readWord 122 = .ok (.imul, 1) := by decide +kernel
theorem d_Tokens_readWord_123 : decode og_c_Tokens_readWord 123 = .ok (.putfield 77, 3) := by decide +kernel
theorem d_Tokens_readWord_126 : decode og_c_Tokens_readWord 126 = .ok (.iinc 1 1, 3) := by decide +kernel
theorem d_Tokens_readWord_129 : decode og_c_Tokens_readWord 129 = .ok (.goto (-20), 3) := by decide +kernel
theorem d_Tokens_readWord_132 : decode og_c_Tokens_readWord 132 = .ok (.aload_n 0, 1) := by decide +kernel
theorem d_Tokens_readWord_133 : decode og_c_Tokens_readWord 133 = .ok (.aload_n 0, 1) := by decide +kernel
theorem d_Tokens_readWord_134 : decode og_c_Tokens_readWord 134 = .ok (.getfield 80, 3) := by decide +kernel
theorem d_Tokens_readWord_137 : decode og_c_Tokens_readWord 137 = .ok (.bipush 6, 2) := by decide +kernel
theorem d_Tokens_readWord_139 : decode og_c_Tokens_readWord 139 = .ok (.if_icmp .gt 10, 3) := by decide +kernel
theorem d_Tokens_readWord_142 : decode og_c_Tokens_readWord 142 = .ok (.aload_n 0, 1) := by decide +kernel
theorem d_Tokens_readWord_143 : decode og_c_Tokens_readWord 143 = .ok (.invokevirtual 81, 3) := by decide +kernel
theorem d_Tokens_readWord_146 : decode og_c_Tokens_readWord 146 = .ok (.goto 4, 3) := by decide +kernel
theorem d_Tokens_readWord_149 : decode og_c_Tokens_readWord 149 = .ok (.iconst (-1), 1) := by decide +kernel
theorem d_Tokens_readWord_150 : decode og_c_Tokens_readWord 150 = .ok (.putfield 74, 3) := by decide +kernel
theorem d_Tokens_readWord_153 : decode og_c_Tokens_readWord 153 = .ok (.aload_n 0, 1) := by decide +kernel
theorem d_Tokens_readWord_154 : decode og_c_Tokens_readWord 154 = .ok (.aload_n 0, 1) := by decide +kernel
theorem d_Tokens_readWord_155 : decode og_c_Tokens_readWord 155 = .ok (.getfield 9, 3) := by decide +kernel
theorem d_Tokens_readWord_158 : decode og_c_Tokens_readWord 158 = .ok (.aload_n 0, 1) := by decide +kernel
theorem d_Tokens_readWord_159 : decode og_c_Tokens_readWord 159 = .ok (.getfield 56, 3) := by decide +kernel
theorem d_Tokens_readWord_162 : decode og_c_Tokens_readWord 162 = .ok (.iconst 1, 1) := by decide +kernel
theorem d_Tokens_readWord_163 : decode og_c_Tokens_readWord 163 = .ok (.isub, 1) := by decide +kernel
theorem d_Tokens_readWord_164 : decode og_c_Tokens_readWord 164 = .ok (.invokevirtual 49, 3) := by decide +kernel
theorem d_Tokens_readWord_167 : decode og_c_Tokens_readWord 167 = .ok (.invokestatic 68, 3) := by decide +kernel
theorem d_Tokens_readWord_170 : decode og_c_Tokens_readWord 170 = .ok (.ifCond .eq 7, 3) := by decide +kernel
theorem d_Tokens_readWord_173 : decode og_c_Tokens_readWord 173 = .ok (.iconst 4, 1) := by decide +kernel
theorem d_Tokens_readWord_174 : decode og_c_Tokens_readWord 174 = .ok (.goto 4, 3) := by decide +kernel
theorem d_Tokens_readWord_177 : decode og_c_Tokens_readWord 177 = .ok (.iconst 1, 1) := by decide +kernel
theorem d_Tokens_readWord_178 : decode og_c_Tokens_readWord 178 = .ok (.putfield 59, 3) := by decide +kernel
theorem d_Tokens_readWord_181 : decode og_c_Tokens_readWord 181 = .ok (.return_, 1) := by decide +kernel
def m_Tokens_readWord : og_Dn := og_den [7] 2 2 (og_seq (og_putf 6 (og_loc 0) (og_k 0)) (og_cut (og_while (og_and (og_cc og_rlt (og_get 1 (og_loc 0)) (og_get 1 (og_fix (fun _ => 1) (og_loc 0)))) (og_cb (og_call m_Tokens_isLetter [og_call m_Tape_at [og_fix (fun _ => 1) (og_loc 0), og_get 1 (og_loc 0)]]))) (og_cut (og_if (og_cc og_rlt (og_sub (og_get 1 (og_loc 0)) (og_get 3 (og_loc 0))) (og_k 6)) (og_putf 6 (og_loc 0) (og_add (og_sub (og_add (og_mul (og_k 27) (og_get 6 (og_loc 0))) (og_call m_Tape_at [og_fix (fun _ => 1) (og_loc 0), og_get 1 (og_loc 0)])) (og_k 97)) (og_k 1))) (og_skip)) (og_pop32 og_padd 1 (og_loc 0) (og_k 1))) (og_skip)) (og_seq (og_putf 4 (og_loc 0) (og_sub (og_get 1 (og_loc 0)) (og_get 3 (og_loc 0)))) (og_cut (og_seq (og_set 1 (og_get 4 (og_loc 0))) (og_while (og_cc og_rlt (og_loc 1) (og_k 6)) (og_pop32 og_pmul 6 (og_loc 0) (og_k 27)) (og_inc 1 1))) (og_seq (og_putf 5 (og_loc 0) (og_ei (og_cc og_rle (og_get 4 (og_loc 0)) (og_k 6)) (og_call m_Tokens_wordNumber [og_loc 0]) (og_k (-1)))) (og_putf 2 (og_loc 0) (og_ei (og_cb (og_call m_Tokens_isDigit [og_call m_Tape_at [og_fix (fun _ => 1) (og_loc 0), og_sub (og_get 3 (og_loc 0)) (og_k 1)]])) (og_k 4) (og_k 1))))))))
set_option maxRecDepth 20000 in
theorem ok_Tokens_readWord : og_MOK og_y_Tokens_readWord og_c_Tokens_readWord 2 2 2 [7] m_Tokens_readWord := og_method (b := 181) (lt' := [(0, 7)]) (by decide +kernel) (by decide) (by decide) (og_sseq (og_p_Tokens_spelling (og_aload_n (i := 0) (t := 5) (j := 0) (by rfl) (by rfl) d_Tokens_readWord_0) (og_iconst (by decide) d_Tokens_readWord_1) og_w239 d_Tokens_readWord_2) (og_scut (og_swhile (T := 36) (F := 91) (cp0 := 5) (og_cand (og_ccn og_n_lt (og_ige (tgt := 91) (og_f_Tokens_at (og_aload_n (i := 0) (t := 5) (j := 0) (by rfl) (by rfl) d_Tokens_readWord_5) og_w231 d_Tokens_readWord_6) (og_f_Tape_size_N (og_f_Tokens_tape (og_aload_n (i := 0) (t := 5) (j := 0) (by rfl) (by rfl) d_Tokens_readWord_9) og_w230 d_Tokens_readWord_10) og_w169 d_Tokens_readWord_13) d_Tokens_readWord_16 (by decide))) (og_cbeq (tgt := 91) (og_callSz (og_acons (og_callVi (og_acons (og_f_Tokens_tape (og_aload_n (i := 0) (t := 5) (j := 0) (by rfl) (by rfl) d_Tokens_readWord_19) og_w230 d_Tokens_readWord_20) (og_acons (og_f_Tokens_at (og_aload_n (i := 0) (t := 5) (j := 0) (by rfl) (by rfl) d_Tokens_readWord_23) og_w231 d_Tokens_readWord_24) (og_anil))) (by decide) ok_Tape_at (v_Tape_at (by decide)) og_w481 d_Tokens_readWord_27) (og_anil)) (by decide) ok_Tokens_isLetter (v_Tokens_isLetter (by decide)) og_w488 d_Tokens_readWord_30) d_Tokens_readWord_33 (by decide))) (og_scut (og_sif (T := 50) (F := 78) (og_ccn og_n_lt (og_ige (tgt := 78) (og_isub (og_f_Tokens_at (og_aload_n (i := 0) (t := 5) (j := 0) (by rfl) (by rfl) d_Tokens_readWord_36) og_w231 d_Tokens_readWord_37) (og_f_Tokens_start (og_aload_n (i := 0) (t := 5) (j := 0) (by rfl) (by rfl) d_Tokens_readWord_40) og_w233 d_Tokens_readWord_41) d_Tokens_readWord_44) (og_bipush (by decide) d_Tokens_readWord_45) d_Tokens_readWord_47 (by decide))) (og_p_Tokens_spelling (og_aload_n (i := 0) (t := 5) (j := 0) (by rfl) (by rfl) d_Tokens_readWord_50) (og_iadd (og_isub (og_iadd (og_imul (og_bipush (by decide) d_Tokens_readWord_51) (og_f_Tokens_spelling (og_aload_n (i := 0) (t := 5) (j := 0) (by rfl) (by rfl) d_Tokens_readWord_53) og_w239 d_Tokens_readWord_54) d_Tokens_readWord_57) (og_callVi (og_acons (og_f_Tokens_tape (og_aload_n (i := 0) (t := 5) (j := 0) (by rfl) (by rfl) d_Tokens_readWord_58) og_w230 d_Tokens_readWord_59) (og_acons (og_f_Tokens_at (og_aload_n (i := 0) (t := 5) (j := 0) (by rfl) (by rfl) d_Tokens_readWord_62) og_w231 d_Tokens_readWord_63) (og_anil))) (by decide) ok_Tape_at (v_Tape_at (by decide)) og_w481 d_Tokens_readWord_66) d_Tokens_readWord_69) (og_bipush (by decide) d_Tokens_readWord_70) d_Tokens_readWord_72) (og_iconst (by decide) d_Tokens_readWord_73) d_Tokens_readWord_74) og_w239 d_Tokens_readWord_75) (og_sskip)) (og_gS (b' := 5) (og_qadd_Tokens_at (og_aload_n (i := 0) (t := 5) (j := 0) (by rfl) (by rfl) d_Tokens_readWord_78) d_Tokens_readWord_79 d_Tokens_readWord_80 (og_iconst (by decide) d_Tokens_readWord_83) d_Tokens_readWord_84 og_w231 d_Tokens_readWord_85) d_Tokens_readWord_88 (by decide))) (og_sskip)) (og_sseq (og_p_Tokens_size (og_aload_n (i := 0) (t := 5) (j := 0) (by rfl) (by rfl) d_Tokens_readWord_91) (og_isub (og_f_Tokens_at (og_aload_n (i := 0) (t := 5) (j := 0) (by rfl) (by rfl) d_Tokens_readWord_92) og_w231 d_Tokens_readWord_93) (og_f_Tokens_start (og_aload_n (i := 0) (t := 5) (j := 0) (by rfl) (by rfl) d_Tokens_readWord_96) og_w233 d_Tokens_readWord_97) d_Tokens_readWord_100) og_w235 d_Tokens_readWord_101) (og_scut (og_sdrop (lt' := [(0, 7), (1, 0)]) (lt2 := [(0, 7)]) (og_sseq (og_istore_n (i := 1) (lt' := [(0, 7), (1, 0)]) (og_f_Tokens_size (og_aload_n (i := 0) (t := 5) (j := 0) (by rfl) (by rfl) d_Tokens_readWord_104) og_w235 d_Tokens_readWord_105) (by rfl) (by decide) (by decide) d_Tokens_readWord_108) (og_swhile (T := 115) (F := 132) (cp0 := 126) (og_ccn og_n_lt (og_ige (tgt := 132) (og_iload_n (i := 1) (j := 1) (by rfl) (by rfl) d_Tokens_readWord_109) (og_bipush (by decide) d_Tokens_readWord_110) d_Tokens_readWord_112 (by decide))) (og_qmul_Tokens_spelling (og_aload_n (i := 0) (t := 5) (j := 0) (by rfl) (by rfl) d_Tokens_readWord_115) d_Tokens_readWord_116 d_Tokens_readWord_117 (og_bipush (by decide) d_Tokens_readWord_120) d_Tokens_readWord_122 og_w239 d_Tokens_readWord_123) (og_gS (b' := 109) (og_iinc (j := 1) (lt' := [(0, 7), (1, 0)]) (by rfl) (by decide) (by decide) d_Tokens_readWord_126) d_Tokens_readWord_129 (by decide)))) (by decide)) (og_sseq (og_p_Tokens_value (og_aload_n (i := 0) (t := 5) (j := 0) (by rfl) (by rfl) d_Tokens_readWord_132) (og_eite (og_ccn og_n_le (og_igt (tgt := 149) (og_f_Tokens_size (og_aload_n (i := 0) (t := 5) (j := 0) (by rfl) (by rfl) d_Tokens_readWord_133) og_w235 d_Tokens_readWord_134) (og_bipush (by decide) d_Tokens_readWord_137) d_Tokens_readWord_139 (by decide))) (og_callVi (og_acons (og_aload_n (i := 0) (t := 5) (j := 0) (by rfl) (by rfl) d_Tokens_readWord_142) (og_anil)) (by decide) ok_Tokens_wordNumber (v_Tokens_wordNumber (by decide)) og_w495 d_Tokens_readWord_143) d_Tokens_readWord_146 (by decide) (og_iconst (by decide) d_Tokens_readWord_149)) og_w237 d_Tokens_readWord_150) (og_p_Tokens_kind (og_aload_n (i := 0) (t := 5) (j := 0) (by rfl) (by rfl) d_Tokens_readWord_153) (og_eite (og_cbeq (tgt := 177) (og_callSz (og_acons (og_callVi (og_acons (og_f_Tokens_tape (og_aload_n (i := 0) (t := 5) (j := 0) (by rfl) (by rfl) d_Tokens_readWord_154) og_w230 d_Tokens_readWord_155) (og_acons (og_isub (og_f_Tokens_start (og_aload_n (i := 0) (t := 5) (j := 0) (by rfl) (by rfl) d_Tokens_readWord_158) og_w233 d_Tokens_readWord_159) (og_iconst (by decide) d_Tokens_readWord_162) d_Tokens_readWord_163) (og_anil))) (by decide) ok_Tape_at (v_Tape_at (by decide)) og_w481 d_Tokens_readWord_164) (og_anil)) (by decide) ok_Tokens_isDigit (v_Tokens_isDigit (by decide)) og_w499 d_Tokens_readWord_167) d_Tokens_readWord_170 (by decide)) (og_iconst (by decide) d_Tokens_readWord_173) d_Tokens_readWord_174 (by decide) (og_iconst (by decide) d_Tokens_readWord_177)) og_w232 d_Tokens_readWord_178)))))) (fun _ => d_Tokens_readWord_181)
abbrev og_c_Tokens_readNumber : ByteArray := prog_11_method_5_code
abbrev og_y_Tokens_readNumber : MethodName := ⟨"OpenGraves$Tokens", "readNumber", "()V"⟩
theorem v_Tokens_readNumber {own : String} {idx dep : Nat} (h : 2 + 1 ≤ dep) : og_sV own idx og_y_Tokens_readNumber og_c_Tokens_readNumber 1 2 2 dep 3 0 := ⟨⟨2, og_sl_Tokens, og_T_Tokens, 10, rfl, by decide, rfl⟩, og_w504, (og_memP (⟨"OpenGraves$Tokens", "readNumber", "()V"⟩, 10) (List.mem_of_getElem? (i := 3) (by decide +kernel))), og_w6, og_w505, ⟨by decide +kernel, by decide +kernel, by decide +kernel⟩, h, by decide⟩
theorem d_Tokens_readNumber_0 : decode og_c_Tokens_readNumber 0 = .ok (.aload_n 0, 1) := by decide +kernel
theorem d_Tokens_readNumber_1 : decode og_c_Tokens_readNumber 1 = .ok (.iconst 0, 1) := by decide +kernel
theorem d_Tokens_readNumber_2 : decode og_c_Tokens_readNumber 2 = .ok (.putfield 74, 3) := by decide +kernel
theorem d_Tokens_readNumber_5 : decode og_c_Tokens_readNumber 5 = .ok (.aload_n 0, 1) := by decide +kernel
theorem d_Tokens_readNumber_6 : decode og_c_Tokens_readNumber 6 = .ok (.getfield 35, 3) := by decide +kernel
theorem d_Tokens_readNumber_9 : decode og_c_Tokens_readNumber 9 = .ok (.aload_n 0, 1) := by decide +kernel
theorem d_Tokens_readNumber_10 : decode og_c_Tokens_readNumber 10 = .ok (.getfield 9, 3) := by decide +kernel
theorem d_Tokens_readNumber_13 : decode og_c_Tokens_readNumber 13 = .ok (.getfield 44, 3) := by decide +kernel
theorem d_Tokens_readNumber_16 : decode og_c_Tokens_readNumber 16 = .ok (.if_icmp .ge 72, 3) := by decide +kernel
theorem d_Tokens_readNumber_19 : decode og_c_Tokens_readNumber 19 = .ok (.aload_n 0, 1) := by decide +kernel
theorem d_Tokens_readNumber_20 : decode og_c_Tokens_readNumber 20 = .ok (.getfield 9, 3) := by decide +kernel
theorem d_Tokens_readNumber_23 : decode og_c_Tokens_readNumber 23 = .ok (.aload_n 0, 1) := by decide +kernel
theorem d_Tokens_readNumber_24 : decode og_c_Tokens_readNumber 24 = .ok (.getfield 35, 3) := by decide +kernel
theorem d_Tokens_readNumber_27 : decode og_c_Tokens_readNumber 27 = .ok (.invokevirtual 49, 3) := by decide +kernel
theorem d_Tokens_readNumber_30 : decode og_c_Tokens_readNumber 30 = .ok (.invokestatic 68, 3) := by decide +kernel
theorem d_Tokens_readNumber_33 : decode og_c_Tokens_readNumber 33 = .ok (.ifCond .eq 55, 3) := by decide +kernel
theorem d_Tokens_readNumber_36 : decode og_c_Tokens_readNumber 36 = .ok (.aload_n 0, 1) := by decide +kernel
theorem d_Tokens_readNumber_37 : decode og_c_Tokens_readNumber 37 = .ok (.getfield 35, 3) := by decide +kernel
theorem d_Tokens_readNumber_40 : decode og_c_Tokens_readNumber 40 = .ok (.aload_n 0, 1) := by decide +kernel
theorem d_Tokens_readNumber_41 : decode og_c_Tokens_readNumber 41 = .ok (.getfield 56, 3) := by decide +kernel
theorem d_Tokens_readNumber_44 : decode og_c_Tokens_readNumber 44 = .ok (.isub, 1) := by decide +kernel
theorem d_Tokens_readNumber_45 : decode og_c_Tokens_readNumber 45 = .ok (.iconst 4, 1) := by decide +kernel
theorem d_Tokens_readNumber_46 : decode og_c_Tokens_readNumber 46 = .ok (.if_icmp .ge 29, 3) := by decide +kernel
theorem d_Tokens_readNumber_49 : decode og_c_Tokens_readNumber 49 = .ok (.aload_n 0, 1) := by decide +kernel
theorem d_Tokens_readNumber_50 : decode og_c_Tokens_readNumber 50 = .ok (.bipush 10, 2) := by decide +kernel
theorem d_Tokens_readNumber_52 : decode og_c_Tokens_readNumber 52 = .ok (.aload_n 0, 1) := by decide +kernel
theorem d_Tokens_readNumber_53 : decode og_c_Tokens_readNumber 53 = .ok (.getfield 74, 3) := by decide +kernel
theorem d_Tokens_readNumber_56 : decode og_c_Tokens_readNumber 56 = .ok (.imul, 1) := by decide +kernel
theorem d_Tokens_readNumber_57 : decode og_c_Tokens_readNumber 57 = .ok (.aload_n 0, 1) := by decide +kernel
theorem d_Tokens_readNumber_58 : decode og_c_Tokens_readNumber 58 = .ok (.getfield 9, 3) := by decide +kernel
theorem d_Tokens_readNumber_61 : decode og_c_Tokens_readNumber 61 = .ok (.aload_n 0, 1) := by decide +kernel
theorem d_Tokens_readNumber_62 : decode og_c_Tokens_readNumber 62 = .ok (.getfield 35, 3) := by decide +kernel
theorem d_Tokens_readNumber_65 : decode og_c_Tokens_readNumber 65 = .ok (.invokevirtual 49, 3) := by decide +kernel
theorem d_Tokens_readNumber_68 : decode og_c_Tokens_readNumber 68 = .ok (.iadd, 1) := by decide +kernel
theorem d_Tokens_readNumber_69 : decode og_c_Tokens_readNumber 69 = .ok (.bipush 48, 2) := by decide +kernel
theorem d_Tokens_readNumber_71 : decode og_c_Tokens_readNumber 71 = .ok (.isub, 1) := by decide +kernel
theorem d_Tokens_readNumber_72 : decode og_c_Tokens_readNumber 72 = .ok (.putfield 74, 3) := by decide +kernel
theorem d_Tokens_readNumber_75 : decode og_c_Tokens_readNumber 75 = .ok (.aload_n 0, 1) := by decide +kernel
theorem d_Tokens_readNumber_76 : decode og_c_Tokens_readNumber 76 = .ok (.dup, 1) := by decide +kernel
theorem d_Tokens_readNumber_77 : decode og_c_Tokens_readNumber 77 = .ok (.getfield 35, 3) := by decide +kernel
theorem d_Tokens_readNumber_80 : decode og_c_Tokens_readNumber 80 = .ok (.iconst 1, 1) := by decide +kernel
theorem d_Tokens_readNumber_81 : decode og_c_Tokens_readNumber 81 = .ok (.iadd, 1) := by decide +kernel
theorem d_Tokens_readNumber_82 : decode og_c_Tokens_readNumber 82 = .ok (.putfield 35, 3) := by decide +kernel
theorem d_Tokens_readNumber_85 : decode og_c_Tokens_readNumber 85 = .ok (.goto (-80), 3) := by decide +kernel
theorem d_Tokens_readNumber_88 : decode og_c_Tokens_readNumber 88 = .ok (.aload_n 0, 1) := by decide +kernel
theorem d_Tokens_readNumber_89 : decode og_c_Tokens_readNumber 89 = .ok (.aload_n 0, 1) := by decide +kernel
theorem d_Tokens_readNumber_90 : decode og_c_Tokens_readNumber 90 = .ok (.getfield 35, 3) := by decide +kernel
theorem d_Tokens_readNumber_93 : decode og_c_Tokens_readNumber 93 = .ok (.aload_n 0, 1) := by decide +kernel
theorem d_Tokens_readNumber_94 : decode og_c_Tokens_readNumber 94 = .ok (.getfield 56, 3) := by decide +kernel
theorem d_Tokens_readNumber_97 : decode og_c_Tokens_readNumber 97 = .ok (.isub, 1) := by decide +kernel
theorem d_Tokens_readNumber_98 : decode og_c_Tokens_readNumber 98 = .ok (.putfield 80, 3) := by decide +kernel
theorem d_Tokens_readNumber_101 : decode og_c_Tokens_readNumber 101 = .ok (.aload_n 0, 1) := by decide +kernel
theorem d_Tokens_readNumber_102 : decode og_c_Tokens_readNumber 102 = .ok (.aload_n 0, 1) := by decide +kernel
theorem d_Tokens_readNumber_103 : decode og_c_Tokens_readNumber 103 = .ok (.getfield 9, 3) := by decide +kernel
theorem d_Tokens_readNumber_106 : decode og_c_Tokens_readNumber 106 = .ok (.aload_n 0, 1) := by decide +kernel
theorem d_Tokens_readNumber_107 : decode og_c_Tokens_readNumber 107 = .ok (.getfield 56, 3) := by decide +kernel
theorem d_Tokens_readNumber_110 : decode og_c_Tokens_readNumber 110 = .ok (.iconst 1, 1) := by decide +kernel
theorem d_Tokens_readNumber_111 : decode og_c_Tokens_readNumber 111 = .ok (.isub, 1) := by decide +kernel
theorem d_Tokens_readNumber_112 : decode og_c_Tokens_readNumber 112 = .ok (.invokevirtual 49, 3) := by decide +kernel
theorem d_Tokens_readNumber_115 : decode og_c_Tokens_readNumber 115 = .ok (.invokestatic 62, 3) := by decide +kernel
theorem d_Tokens_readNumber_118 : decode og_c_Tokens_readNumber 118 = .ok (.ifCond .eq 7, 3) := by decide +kernel
theorem d_Tokens_readNumber_121 : decode og_c_Tokens_readNumber 121 = .ok (.iconst 4, 1) := by decide +kernel
theorem d_Tokens_readNumber_122 : decode og_c_Tokens_readNumber 122 = .ok (.goto 4, 3) := by decide +kernel
theorem d_Tokens_readNumber_125 : decode og_c_Tokens_readNumber 125 = .ok (.iconst 2, 1) := by decide +kernel
theorem d_Tokens_readNumber_126 : decode og_c_Tokens_readNumber 126 = .ok (.putfield 59, 3) := by decide +kernel
theorem d_Tokens_readNumber_129 : decode og_c_Tokens_readNumber 129 = .ok (.return_, 1) := by decide +kernel
def m_Tokens_readNumber : og_Dn := og_den [7] 1 2 (og_seq (og_putf 5 (og_loc 0) (og_k 0)) (og_cut (og_while (og_and (og_cc og_rlt (og_get 1 (og_loc 0)) (og_get 1 (og_fix (fun _ => 1) (og_loc 0)))) (og_cb (og_call m_Tokens_isDigit [og_call m_Tape_at [og_fix (fun _ => 1) (og_loc 0), og_get 1 (og_loc 0)]]))) (og_cut (og_if (og_cc og_rlt (og_sub (og_get 1 (og_loc 0)) (og_get 3 (og_loc 0))) (og_k 4)) (og_putf 5 (og_loc 0) (og_sub (og_add (og_mul (og_k 10) (og_get 5 (og_loc 0))) (og_call m_Tape_at [og_fix (fun _ => 1) (og_loc 0), og_get 1 (og_loc 0)])) (og_k 48))) (og_skip)) (og_pop32 og_padd 1 (og_loc 0) (og_k 1))) (og_skip)) (og_seq (og_putf 4 (og_loc 0) (og_sub (og_get 1 (og_loc 0)) (og_get 3 (og_loc 0)))) (og_putf 2 (og_loc 0) (og_ei (og_cb (og_call m_Tokens_isLetter [og_call m_Tape_at [og_fix (fun _ => 1) (og_loc 0), og_sub (og_get 3 (og_loc 0)) (og_k 1)]])) (og_k 4) (og_k 2))))))
set_option maxRecDepth 20000 in
theorem ok_Tokens_readNumber : og_MOK og_y_Tokens_readNumber og_c_Tokens_readNumber 1 2 2 [7] m_Tokens_readNumber := og_method (b := 129) (lt' := [(0, 7)]) (by decide +kernel) (by decide) (by decide) (og_sseq (og_p_Tokens_value (og_aload_n (i := 0) (t := 5) (j := 0) (by rfl) (by rfl) d_Tokens_readNumber_0) (og_iconst (by decide) d_Tokens_readNumber_1) og_w237 d_Tokens_readNumber_2) (og_scut (og_swhile (T := 36) (F := 88) (cp0 := 5) (og_cand (og_ccn og_n_lt (og_ige (tgt := 88) (og_f_Tokens_at (og_aload_n (i := 0) (t := 5) (j := 0) (by rfl) (by rfl) d_Tokens_readNumber_5) og_w231 d_Tokens_readNumber_6) (og_f_Tape_size_N (og_f_Tokens_tape (og_aload_n (i := 0) (t := 5) (j := 0) (by rfl) (by rfl) d_Tokens_readNumber_9) og_w230 d_Tokens_readNumber_10) og_w169 d_Tokens_readNumber_13) d_Tokens_readNumber_16 (by decide))) (og_cbeq (tgt := 88) (og_callSz (og_acons (og_callVi (og_acons (og_f_Tokens_tape (og_aload_n (i := 0) (t := 5) (j := 0) (by rfl) (by rfl) d_Tokens_readNumber_19) og_w230 d_Tokens_readNumber_20) (og_acons (og_f_Tokens_at (og_aload_n (i := 0) (t := 5) (j := 0) (by rfl) (by rfl) d_Tokens_readNumber_23) og_w231 d_Tokens_readNumber_24) (og_anil))) (by decide) ok_Tape_at (v_Tape_at (by decide)) og_w481 d_Tokens_readNumber_27) (og_anil)) (by decide) ok_Tokens_isDigit (v_Tokens_isDigit (by decide)) og_w499 d_Tokens_readNumber_30) d_Tokens_readNumber_33 (by decide))) (og_scut (og_sif (T := 49) (F := 75) (og_ccn og_n_lt (og_ige (tgt := 75) (og_isub (og_f_Tokens_at (og_aload_n (i := 0) (t := 5) (j := 0) (by rfl) (by rfl) d_Tokens_readNumber_36) og_w231 d_Tokens_readNumber_37) (og_f_Tokens_start (og_aload_n (i := 0) (t := 5) (j := 0) (by rfl) (by rfl) d_Tokens_readNumber_40) og_w233 d_Tokens_readNumber_41) d_Tokens_readNumber_44) (og_iconst (by decide) d_Tokens_readNumber_45) d_Tokens_readNumber_46 (by decide))) (og_p_Tokens_value (og_aload_n (i := 0) (t := 5) (j := 0) (by rfl) (by rfl) d_Tokens_readNumber_49) (og_isub (og_iadd (og_imul (og_bipush (by decide) d_Tokens_readNumber_50) (og_f_Tokens_value (og_aload_n (i := 0) (t := 5) (j := 0) (by rfl) (by rfl) d_Tokens_readNumber_52) og_w237 d_Tokens_readNumber_53) d_Tokens_readNumber_56) (og_callVi (og_acons (og_f_Tokens_tape (og_aload_n (i := 0) (t := 5) (j := 0) (by rfl) (by rfl) d_Tokens_readNumber_57) og_w230 d_Tokens_readNumber_58) (og_acons (og_f_Tokens_at (og_aload_n (i := 0) (t := 5) (j := 0) (by rfl) (by rfl) d_Tokens_readNumber_61) og_w231 d_Tokens_readNumber_62) (og_anil))) (by decide) ok_Tape_at (v_Tape_at (by decide)) og_w481 d_Tokens_readNumber_65) d_Tokens_readNumber_68) (og_bipush (by decide) d_Tokens_readNumber_69) d_Tokens_readNumber_71) og_w237 d_Tokens_readNumber_72) (og_sskip)) (og_gS (b' := 5) (og_qadd_Tokens_at (og_aload_n (i := 0) (t := 5) (j := 0) (by rfl) (by rfl) d_Tokens_readNumber_75) d_Tokens_readNumber_76 d_Tokens_readNumber_77 (og_iconst (by decide) d_Tokens_readNumber_80) d_Tokens_readNumber_81 og_w231 d_Tokens_readNumber_82) d_Tokens_readNumber_85 (by decide))) (og_sskip)) (og_sseq (og_p_Tokens_size (og_aload_n (i := 0) (t := 5) (j := 0) (by rfl) (by rfl) d_Tokens_readNumber_88) (og_isub (og_f_Tokens_at (og_aload_n (i := 0) (t := 5) (j := 0) (by rfl) (by rfl) d_Tokens_readNumber_89) og_w231 d_Tokens_readNumber_90) (og_f_Tokens_start (og_aload_n (i := 0) (t := 5) (j := 0) (by rfl) (by rfl) d_Tokens_readNumber_93) og_w233 d_Tokens_readNumber_94) d_Tokens_readNumber_97) og_w235 d_Tokens_readNumber_98) (og_p_Tokens_kind (og_aload_n (i := 0) (t := 5) (j := 0) (by rfl) (by rfl) d_Tokens_readNumber_101) (og_eite (og_cbeq (tgt := 125) (og_callSz (og_acons (og_callVi (og_acons (og_f_Tokens_tape (og_aload_n (i := 0) (t := 5) (j := 0) (by rfl) (by rfl) d_Tokens_readNumber_102) og_w230 d_Tokens_readNumber_103) (og_acons (og_isub (og_f_Tokens_start (og_aload_n (i := 0) (t := 5) (j := 0) (by rfl) (by rfl) d_Tokens_readNumber_106) og_w233 d_Tokens_readNumber_107) (og_iconst (by decide) d_Tokens_readNumber_110) d_Tokens_readNumber_111) (og_anil))) (by decide) ok_Tape_at (v_Tape_at (by decide)) og_w481 d_Tokens_readNumber_112) (og_anil)) (by decide) ok_Tokens_isLetter (v_Tokens_isLetter (by decide)) og_w488 d_Tokens_readNumber_115) d_Tokens_readNumber_118 (by decide)) (og_iconst (by decide) d_Tokens_readNumber_121) d_Tokens_readNumber_122 (by decide) (og_iconst (by decide) d_Tokens_readNumber_125)) og_w232 d_Tokens_readNumber_126)))) (fun _ => d_Tokens_readNumber_129)
abbrev og_c_Tokens_step : ByteArray := prog_11_method_3_code
abbrev og_y_Tokens_step : MethodName := ⟨"OpenGraves$Tokens", "step", "()V"⟩
theorem v_Tokens_step {own : String} {idx dep : Nat} (h : 3 + 1 ≤ dep) : og_sV own idx og_y_Tokens_step og_c_Tokens_step 2 2 3 dep 3 0 := ⟨⟨2, og_sl_Tokens, og_T_Tokens, 10, rfl, by decide, rfl⟩, og_w478, og_w479, og_w6, og_w480, ⟨by decide +kernel, by decide +kernel, by decide +kernel⟩, h, by decide⟩
theorem d_Tokens_step_0 : decode og_c_Tokens_step 0 = .ok (.aload_n 0, 1) := by decide +kernel
theorem d_Tokens_step_1 : decode og_c_Tokens_step 1 = .ok (.getfield 38, 3) := by decide +kernel
theorem d_Tokens_step_4 : decode og_c_Tokens_step 4 = .ok (.ifCond .eq 4, 3) := by decide +kernel
theorem d_Tokens_step_7 : decode og_c_Tokens_step 7 = .ok (.return_, 1) := by decide +kernel
theorem d_Tokens_step_8 : decode og_c_Tokens_step 8 = .ok (.aload_n 0, 1) := by decide +kernel
theorem d_Tokens_step_9 : decode og_c_Tokens_step 9 = .ok (.getfield 35, 3) := by decide +kernel
theorem d_Tokens_step_12 : decode og_c_Tokens_step 12 = .ok (.aload_n 0, 1) := by decide +kernel
theorem d_Tokens_step_13 : decode og_c_Tokens_step 13 = .ok (.getfield 9, 3) := by decide +kernel
theorem d_Tokens_step_16 : decode og_c_Tokens_step 16 = .ok (.getfield 44, 3) := by decide +kernel
theorem d_Tokens_step_19 : decode og_c_Tokens_step 19 = .ok (.if_icmp .ge 33, 3) := by decide +kernel
theorem d_Tokens_step_22 : decode og_c_Tokens_step 22 = .ok (.aload_n 0, 1) := by decide +kernel
theorem d_Tokens_step_23 : decode og_c_Tokens_step 23 = .ok (.getfield 9, 3) := by decide +kernel
theorem d_Tokens_step_26 : decode og_c_Tokens_step 26 = .ok (.aload_n 0, 1) := by decide +kernel
theorem d_Tokens_step_27 : decode og_c_Tokens_step 27 = .ok (.getfield 35, 3) := by decide +kernel
theorem d_Tokens_step_30 : decode og_c_Tokens_step 30 = .ok (.invokevirtual 49, 3) := by decide +kernel
theorem d_Tokens_step_33 : decode og_c_Tokens_step 33 = .ok (.invokestatic 52, 3) := by decide +kernel
theorem d_Tokens_step_36 : decode og_c_Tokens_step 36 = .ok (.ifCond .eq 16, 3) := by decide +kernel
theorem d_Tokens_step_39 : decode og_c_Tokens_step 39 = .ok (.aload_n 0, 1) := by decide +kernel
theorem d_Tokens_step_40 : decode og_c_Tokens_step 40 = .ok (.dup, 1) := by decide +kernel
theorem d_Tokens_step_41 : decode og_c_Tokens_step 41 = .ok (.getfield 35, 3) := by decide +kernel
theorem d_Tokens_step_44 : decode og_c_Tokens_step 44 = .ok (.iconst 1, 1) := by decide +kernel
theorem d_Tokens_step_45 : decode og_c_Tokens_step 45 = .ok (.iadd, 1) := by decide +kernel
theorem d_Tokens_step_46 : decode og_c_Tokens_step 46 = .ok (.putfield 35, 3) := by decide +kernel
theorem d_Tokens_step_49 : decode og_c_Tokens_step 49 = .ok (.goto (-41), 3) := by decide +kernel
theorem d_Tokens_step_52 : decode og_c_Tokens_step 52 = .ok (.aload_n 0, 1) := by decide +kernel
theorem d_Tokens_step_53 : decode og_c_Tokens_step 53 = .ok (.aload_n 0, 1) := by decide +kernel
theorem d_Tokens_step_54 : decode og_c_Tokens_step 54 = .ok (.getfield 35, 3) := by decide +kernel
theorem d_Tokens_step_57 : decode og_c_Tokens_step 57 = .ok (.putfield 56, 3) := by decide +kernel
theorem d_Tokens_step_60 : decode og_c_Tokens_step 60 = .ok (.aload_n 0, 1) := by decide +kernel
theorem d_Tokens_step_61 : decode og_c_Tokens_step 61 = .ok (.getfield 9, 3) := by decide +kernel
theorem d_Tokens_step_64 : decode og_c_Tokens_step 64 = .ok (.aload_n 0, 1) := by decide +kernel
theorem d_Tokens_step_65 : decode og_c_Tokens_step 65 = .ok (.getfield 35, 3) := by decide +kernel
theorem d_Tokens_step_68 : decode og_c_Tokens_step 68 = .ok (.invokevirtual 49, 3) := by decide +kernel
theorem d_Tokens_step_71 : decode og_c_Tokens_step 71 = .ok (.istore_n 1, 1) := by decide +kernel
theorem d_Tokens_step_72 : decode og_c_Tokens_step 72 = .ok (.iload_n 1, 1) := by decide +kernel
theorem d_Tokens_step_73 : decode og_c_Tokens_step 73 = .ok (.iconst (-1), 1) := by decide +kernel
theorem d_Tokens_step_74 : decode og_c_Tokens_step 74 = .ok (.if_icmp .ne 11, 3) := by decide +kernel
theorem d_Tokens_step_77 : decode og_c_Tokens_step 77 = .ok (.aload_n 0, 1) := by decide +kernel
theorem d_Tokens_step_78 : decode og_c_Tokens_step 78 = .ok (.iconst 0, 1) := by decide +kernel
theorem d_Tokens_step_79 : decode og_c_Tokens_step 79 = .ok (.putfield 59, 3) := by decide +kernel
theorem d_Tokens_step_82 : decode og_c_Tokens_step 82 = .ok (.goto 51, 3) := by decide +kernel
theorem d_Tokens_step_85 : decode og_c_Tokens_step 85 = .ok (.iload_n 1, 1) := by decide +kernel
theorem d_Tokens_step_86 : decode og_c_Tokens_step 86 = .ok (.invokestatic 62, 3) := by decide +kernel
theorem d_Tokens_step_89 : decode og_c_Tokens_step 89 = .ok (.ifCond .eq 10, 3) := by decide +kernel
theorem d_Tokens_step_92 : decode og_c_Tokens_step 92 = .ok (.aload_n 0, 1) := by decide +kernel
theorem d_Tokens_step_93 : decode og_c_Tokens_step 93 = .ok (.invokevirtual 65, 3) := by decide +kernel
theorem d_Tokens_step_96 : decode og_c_Tokens_step 96 = .ok (.goto 37, 3) := by decide +kernel
theorem d_Tokens_step_99 : decode og_c_Tokens_step 99 = .ok (.iload_n 1, 1) := by decide +kernel
theorem d_Tokens_step_100 : decode og_c_Tokens_step 100 = .ok (.invokestatic 68, 3) := by decide +kernel
theorem d_Tokens_step_103 : decode og_c_Tokens_step 103 = .ok (.ifCond .eq 10, 3) := by decide +kernel
theorem d_Tokens_step_106 : decode og_c_Tokens_step 106 = .ok (.aload_n 0, 1) := by decide +kernel
theorem d_Tokens_step_107 : decode og_c_Tokens_step 107 = .ok (.invokevirtual 71, 3) := by decide +kernel
theorem d_Tokens_step_110 : decode og_c_Tokens_step 110 = .ok (.goto 23, 3) := by decide +kernel
theorem d_Tokens_step_113 : decode og_c_Tokens_step 113 = .ok (.aload_n 0, 1) := by decide +kernel
theorem d_Tokens_step_114 : decode og_c_Tokens_step 114 = .ok (.iconst 3, 1) := by decide +kernel
theorem d_Tokens_step_115 : decode og_c_Tokens_step 115 = .ok (.putfield 59, 3) := by decide +kernel
theorem d_Tokens_step_118 : decode og_c_Tokens_step 118 = .ok (.aload_n 0, 1) := by decide +kernel
theorem d_Tokens_step_119 : decode og_c_Tokens_step 119 = .ok (.iload_n 1, 1) := by decide +kernel
theorem d_Tokens_step_120 : decode og_c_Tokens_step 120 = .ok (.putfield 74, 3) := by decide +kernel
theorem d_Tokens_step_123 : decode og_c_Tokens_step 123 = .ok (.aload_n 0, 1) := by decide +kernel
theorem d_Tokens_step_124 : decode og_c_Tokens_step 124 = .ok (.dup, 1) := by decide +kernel
theorem d_Tokens_step_125 : decode og_c_Tokens_step 125 = .ok (.getfield 35, 3) := by decide +kernel
theorem d_Tokens_step_128 : decode og_c_Tokens_step 128 = .ok (.iconst 1, 1) := by decide +kernel
theorem d_Tokens_step_129 : decode og_c_Tokens_step 129 = .ok (.iadd, 1) := by decide +kernel
theorem d_Tokens_step_130 : decode og_c_Tokens_step 130 = .ok (.putfield 35, 3) := by decide +kernel
theorem d_Tokens_step_133 : decode og_c_Tokens_step 133 = .ok (.return_, 1) := by decide +kernel
def m_Tokens_step : og_Dn := og_den [7] 2 2 (og_seq (og_if (og_cc og_rne (og_get 7 (og_loc 0)) (og_k 0)) (og_retv) (og_skip)) (og_cut (og_while (og_and (og_cc og_rlt (og_get 1 (og_loc 0)) (og_get 1 (og_fix (fun _ => 1) (og_loc 0)))) (og_cb (og_call m_Tokens_isBlank [og_call m_Tape_at [og_fix (fun _ => 1) (og_loc 0), og_get 1 (og_loc 0)]]))) (og_pop32 og_padd 1 (og_loc 0) (og_k 1)) (og_skip)) (og_seq (og_putf 3 (og_loc 0) (og_get 1 (og_loc 0))) (og_seq (og_set 1 (og_call m_Tape_at [og_fix (fun _ => 1) (og_loc 0), og_get 1 (og_loc 0)])) (og_if (og_cc og_req (og_loc 1) (og_k (-1))) (og_putf 2 (og_loc 0) (og_k 0)) (og_if (og_cb (og_call m_Tokens_isLetter [og_loc 1])) (og_exp (og_call m_Tokens_readWord [og_loc 0])) (og_if (og_cb (og_call m_Tokens_isDigit [og_loc 1])) (og_exp (og_call m_Tokens_readNumber [og_loc 0])) (og_seq (og_putf 2 (og_loc 0) (og_k 3)) (og_seq (og_putf 5 (og_loc 0) (og_loc 1)) (og_pop32 og_padd 1 (og_loc 0) (og_k 1)))))))))))
set_option maxRecDepth 20000 in
theorem ok_Tokens_step : og_MOK og_y_Tokens_step og_c_Tokens_step 2 2 3 [7] m_Tokens_step := og_method (b := 133) (lt' := [(0, 7)]) (by decide +kernel) (by decide) (by decide) (og_sdrop (lt' := [(0, 7), (1, 0)]) (lt2 := [(0, 7)]) (og_sseq (og_sif (T := 7) (F := 8) (og_ccn og_n_ne (og_zeq (tgt := 8) (og_f_Tokens_faultKind (og_aload_n (i := 0) (t := 5) (j := 0) (by rfl) (by rfl) d_Tokens_step_0) og_w241 d_Tokens_step_1) d_Tokens_step_4 (by decide))) (og_sretv d_Tokens_step_7) (og_sskip)) (og_scut (og_swhile (T := 39) (F := 52) (cp0 := 8) (og_cand (og_ccn og_n_lt (og_ige (tgt := 52) (og_f_Tokens_at (og_aload_n (i := 0) (t := 5) (j := 0) (by rfl) (by rfl) d_Tokens_step_8) og_w231 d_Tokens_step_9) (og_f_Tape_size_N (og_f_Tokens_tape (og_aload_n (i := 0) (t := 5) (j := 0) (by rfl) (by rfl) d_Tokens_step_12) og_w230 d_Tokens_step_13) og_w169 d_Tokens_step_16) d_Tokens_step_19 (by decide))) (og_cbeq (tgt := 52) (og_callSz (og_acons (og_callVi (og_acons (og_f_Tokens_tape (og_aload_n (i := 0) (t := 5) (j := 0) (by rfl) (by rfl) d_Tokens_step_22) og_w230 d_Tokens_step_23) (og_acons (og_f_Tokens_at (og_aload_n (i := 0) (t := 5) (j := 0) (by rfl) (by rfl) d_Tokens_step_26) og_w231 d_Tokens_step_27) (og_anil))) (by decide) ok_Tape_at (v_Tape_at (by decide)) og_w481 d_Tokens_step_30) (og_anil)) (by decide) ok_Tokens_isBlank (v_Tokens_isBlank (by decide)) og_w485 d_Tokens_step_33) d_Tokens_step_36 (by decide))) (og_gS (b' := 8) (og_qadd_Tokens_at (og_aload_n (i := 0) (t := 5) (j := 0) (by rfl) (by rfl) d_Tokens_step_39) d_Tokens_step_40 d_Tokens_step_41 (og_iconst (by decide) d_Tokens_step_44) d_Tokens_step_45 og_w231 d_Tokens_step_46) d_Tokens_step_49 (by decide)) (og_sskip)) (og_sseq (og_p_Tokens_start (og_aload_n (i := 0) (t := 5) (j := 0) (by rfl) (by rfl) d_Tokens_step_52) (og_f_Tokens_at (og_aload_n (i := 0) (t := 5) (j := 0) (by rfl) (by rfl) d_Tokens_step_53) og_w231 d_Tokens_step_54) og_w233 d_Tokens_step_57) (og_sseq (og_istore_n (i := 1) (lt' := [(0, 7), (1, 0)]) (og_callVi (og_acons (og_f_Tokens_tape (og_aload_n (i := 0) (t := 5) (j := 0) (by rfl) (by rfl) d_Tokens_step_60) og_w230 d_Tokens_step_61) (og_acons (og_f_Tokens_at (og_aload_n (i := 0) (t := 5) (j := 0) (by rfl) (by rfl) d_Tokens_step_64) og_w231 d_Tokens_step_65) (og_anil))) (by decide) ok_Tape_at (v_Tape_at (by decide)) og_w481 d_Tokens_step_68) (by rfl) (by decide) (by decide) d_Tokens_step_71) (og_sif (T := 77) (F := 85) (og_ccn og_n_eq (og_ine (tgt := 85) (og_iload_n (i := 1) (j := 1) (by rfl) (by rfl) d_Tokens_step_72) (og_iconst (by decide) d_Tokens_step_73) d_Tokens_step_74 (by decide))) (og_gS (b' := 133) (og_p_Tokens_kind (og_aload_n (i := 0) (t := 5) (j := 0) (by rfl) (by rfl) d_Tokens_step_77) (og_iconst (by decide) d_Tokens_step_78) og_w232 d_Tokens_step_79) d_Tokens_step_82 (by decide)) (og_sif (T := 92) (F := 99) (og_cbeq (tgt := 99) (og_callSz (og_acons (og_iload_n (i := 1) (j := 1) (by rfl) (by rfl) d_Tokens_step_85) (og_anil)) (by decide) ok_Tokens_isLetter (v_Tokens_isLetter (by decide)) og_w488 d_Tokens_step_86) d_Tokens_step_89 (by decide)) (og_gS (b' := 133) (og_callVv (og_acons (og_aload_n (i := 0) (t := 5) (j := 0) (by rfl) (by rfl) d_Tokens_step_92) (og_anil)) ok_Tokens_readWord (v_Tokens_readWord (by decide)) og_w491 d_Tokens_step_93) d_Tokens_step_96 (by decide)) (og_sif (T := 106) (F := 113) (og_cbeq (tgt := 113) (og_callSz (og_acons (og_iload_n (i := 1) (j := 1) (by rfl) (by rfl) d_Tokens_step_99) (og_anil)) (by decide) ok_Tokens_isDigit (v_Tokens_isDigit (by decide)) og_w499 d_Tokens_step_100) d_Tokens_step_103 (by decide)) (og_gS (b' := 133) (og_callVv (og_acons (og_aload_n (i := 0) (t := 5) (j := 0) (by rfl) (by rfl) d_Tokens_step_106) (og_anil)) ok_Tokens_readNumber (v_Tokens_readNumber (by decide)) og_w502 d_Tokens_step_107) d_Tokens_step_110 (by decide)) (og_sseq (og_p_Tokens_kind (og_aload_n (i := 0) (t := 5) (j := 0) (by rfl) (by rfl) d_Tokens_step_113) (og_iconst (by decide) d_Tokens_step_114) og_w232 d_Tokens_step_115) (og_sseq (og_p_Tokens_value (og_aload_n (i := 0) (t := 5) (j := 0) (by rfl) (by rfl) d_Tokens_step_118) (og_iload_n (i := 1) (j := 1) (by rfl) (by rfl) d_Tokens_step_119) og_w237 d_Tokens_step_120) (og_qadd_Tokens_at (og_aload_n (i := 0) (t := 5) (j := 0) (by rfl) (by rfl) d_Tokens_step_123) d_Tokens_step_124 d_Tokens_step_125 (og_iconst (by decide) d_Tokens_step_128) d_Tokens_step_129 og_w231 d_Tokens_step_130)))))))))) (by decide)) (fun _ => d_Tokens_step_133)
abbrev og_c_Tokens_begin : ByteArray := prog_11_method_2_code
abbrev og_y_Tokens_begin : MethodName := ⟨"OpenGraves$Tokens", "begin", "()V"⟩
theorem v_Tokens_begin {own : String} {idx dep : Nat} (h : 4 + 1 ≤ dep) : og_sV own idx og_y_Tokens_begin og_c_Tokens_begin 1 2 4 dep 3 0 := ⟨⟨2, og_sl_Tokens, og_T_Tokens, 10, rfl, by decide, rfl⟩, og_w474, og_w475, og_w6, og_w476, ⟨by decide +kernel, by decide +kernel, by decide +kernel⟩, h, by decide⟩
theorem d_Tokens_begin_0 : decode og_c_Tokens_begin 0 = .ok (.aload_n 0, 1) := by decide +kernel
theorem d_Tokens_begin_1 : decode og_c_Tokens_begin 1 = .ok (.iconst 0, 1) := by decide +kernel
theorem d_Tokens_begin_2 : decode og_c_Tokens_begin 2 = .ok (.putfield 35, 3) := by decide +kernel
theorem d_Tokens_begin_5 : decode og_c_Tokens_begin 5 = .ok (.aload_n 0, 1) := by decide +kernel
theorem d_Tokens_begin_6 : decode og_c_Tokens_begin 6 = .ok (.iconst 0, 1) := by decide +kernel
theorem d_Tokens_begin_7 : decode og_c_Tokens_begin 7 = .ok (.putfield 38, 3) := by decide +kernel
theorem d_Tokens_begin_10 : decode og_c_Tokens_begin 10 = .ok (.aload_n 0, 1) := by decide +kernel
theorem d_Tokens_begin_11 : decode og_c_Tokens_begin 11 = .ok (.iconst (-1), 1) := by decide +kernel
theorem d_Tokens_begin_12 : decode og_c_Tokens_begin 12 = .ok (.putfield 15, 3) := by decide +kernel
theorem d_Tokens_begin_15 : decode og_c_Tokens_begin 15 = .ok (.aload_n 0, 1) := by decide +kernel
theorem d_Tokens_begin_16 : decode og_c_Tokens_begin 16 = .ok (.invokevirtual 41, 3) := by decide +kernel
theorem d_Tokens_begin_19 : decode og_c_Tokens_begin 19 = .ok (.return_, 1) := by decide +kernel
def m_Tokens_begin : og_Dn := og_den [7] 1 2 (og_seq (og_putf 1 (og_loc 0) (og_k 0)) (og_seq (og_putf 7 (og_loc 0) (og_k 0)) (og_seq (og_putf 8 (og_loc 0) (og_k (-1))) (og_exp (og_call m_Tokens_step [og_loc 0])))))
set_option maxRecDepth 20000 in
theorem ok_Tokens_begin : og_MOK og_y_Tokens_begin og_c_Tokens_begin 1 2 4 [7] m_Tokens_begin := og_method (b := 19) (lt' := [(0, 7)]) (by decide +kernel) (by decide) (by decide) (og_sseq (og_p_Tokens_at (og_aload_n (i := 0) (t := 5) (j := 0) (by rfl) (by rfl) d_Tokens_begin_0) (og_iconst (by decide) d_Tokens_begin_1) og_w231 d_Tokens_begin_2) (og_sseq (og_p_Tokens_faultKind (og_aload_n (i := 0) (t := 5) (j := 0) (by rfl) (by rfl) d_Tokens_begin_5) (og_iconst (by decide) d_Tokens_begin_6) og_w241 d_Tokens_begin_7) (og_sseq (og_p_Tokens_faultPlace (og_aload_n (i := 0) (t := 5) (j := 0) (by rfl) (by rfl) d_Tokens_begin_10) (og_iconst (by decide) d_Tokens_begin_11) og_w245 d_Tokens_begin_12) (og_callVv (og_acons (og_aload_n (i := 0) (t := 5) (j := 0) (by rfl) (by rfl) d_Tokens_begin_15) (og_anil)) ok_Tokens_step (v_Tokens_step (by decide)) og_w477 d_Tokens_begin_16)))) (fun _ => d_Tokens_begin_19)
abbrev og_c_Tokens_goesOn : ByteArray := prog_11_method_12_code
abbrev og_y_Tokens_goesOn : MethodName := ⟨"OpenGraves$Tokens", "goesOn", "()Z"⟩
theorem v_Tokens_goesOn {own : String} {idx dep : Nat} (h : 1 + 1 ≤ dep) : og_sV own idx og_y_Tokens_goesOn og_c_Tokens_goesOn 1 3 1 dep 3 0 := ⟨⟨2, og_sl_Tokens, og_T_Tokens, 10, rfl, by decide, rfl⟩, og_w507, og_w508, og_w6, og_w509, ⟨by decide +kernel, by decide +kernel, by decide +kernel⟩, h, by decide⟩
theorem d_Tokens_goesOn_0 : decode og_c_Tokens_goesOn 0 = .ok (.aload_n 0, 1) := by decide +kernel
theorem d_Tokens_goesOn_1 : decode og_c_Tokens_goesOn 1 = .ok (.getfield 38, 3) := by decide +kernel
theorem d_Tokens_goesOn_4 : decode og_c_Tokens_goesOn 4 = .ok (.ifCond .ne 14, 3) := by decide +kernel
theorem d_Tokens_goesOn_7 : decode og_c_Tokens_goesOn 7 = .ok (.aload_n 0, 1) := by decide +kernel
theorem d_Tokens_goesOn_8 : decode og_c_Tokens_goesOn 8 = .ok (.getfield 59, 3) := by decide +kernel
theorem d_Tokens_goesOn_11 : decode og_c_Tokens_goesOn 11 = .ok (.ifCond .eq 7, 3) := by decide +kernel
theorem d_Tokens_goesOn_14 : decode og_c_Tokens_goesOn 14 = .ok (.iconst 1, 1) := by decide +kernel
theorem d_Tokens_goesOn_15 : decode og_c_Tokens_goesOn 15 = .ok (.goto 4, 3) := by decide +kernel
theorem d_Tokens_goesOn_18 : decode og_c_Tokens_goesOn 18 = .ok (.iconst 0, 1) := by decide +kernel
theorem d_Tokens_goesOn_19 : decode og_c_Tokens_goesOn 19 = .ok (.ireturn, 1) := by decide +kernel
def m_Tokens_goesOn : og_Dn := og_den [7] 1 3 (og_retz (og_ec (og_and (og_cc og_req (og_get 7 (og_loc 0)) (og_k 0)) (og_cc og_rne (og_get 2 (og_loc 0)) (og_k 0)))))
set_option maxRecDepth 20000 in
theorem ok_Tokens_goesOn : og_MOK og_y_Tokens_goesOn og_c_Tokens_goesOn 1 3 1 [7] m_Tokens_goesOn := og_method (b := 0) (lt' := []) (by decide +kernel) (by decide) (by decide) (og_sretz (og_econd (b := 0) (og_cand (og_ccn og_n_eq (og_zne (tgt := 18) (og_f_Tokens_faultKind (og_aload_n (i := 0) (t := 5) (j := 0) (by rfl) (by rfl) d_Tokens_goesOn_0) og_w241 d_Tokens_goesOn_1) d_Tokens_goesOn_4 (by decide))) (og_ccn og_n_ne (og_zeq (tgt := 18) (og_f_Tokens_kind (og_aload_n (i := 0) (t := 5) (j := 0) (by rfl) (by rfl) d_Tokens_goesOn_7) og_w232 d_Tokens_goesOn_8) d_Tokens_goesOn_11 (by decide)))) d_Tokens_goesOn_14 d_Tokens_goesOn_15 (by decide) d_Tokens_goesOn_18 (by rfl)) d_Tokens_goesOn_19) (fun h => by cases h)
abbrev og_c_Tokens_word : ByteArray := prog_11_method_16_code
abbrev og_y_Tokens_word : MethodName := ⟨"OpenGraves$Tokens", "word", "()I"⟩
theorem v_Tokens_word {own : String} {idx dep : Nat} (h : 1 + 1 ≤ dep) : og_sV own idx og_y_Tokens_word og_c_Tokens_word 1 0 1 dep 3 0 := ⟨⟨2, og_sl_Tokens, og_T_Tokens, 10, rfl, by decide, rfl⟩, og_w515, og_w516, og_w6, og_w517, ⟨by decide +kernel, by decide +kernel, by decide +kernel⟩, h, by decide⟩
theorem d_Tokens_word_0 : decode og_c_Tokens_word 0 = .ok (.aload_n 0, 1) := by decide +kernel
theorem d_Tokens_word_1 : decode og_c_Tokens_word 1 = .ok (.getfield 59, 3) := by decide +kernel
theorem d_Tokens_word_4 : decode og_c_Tokens_word 4 = .ok (.iconst 1, 1) := by decide +kernel
theorem d_Tokens_word_5 : decode og_c_Tokens_word 5 = .ok (.if_icmp .ne 10, 3) := by decide +kernel
theorem d_Tokens_word_8 : decode og_c_Tokens_word 8 = .ok (.aload_n 0, 1) := by decide +kernel
theorem d_Tokens_word_9 : decode og_c_Tokens_word 9 = .ok (.getfield 74, 3) := by decide +kernel
theorem d_Tokens_word_12 : decode og_c_Tokens_word 12 = .ok (.goto 4, 3) := by decide +kernel
theorem d_Tokens_word_15 : decode og_c_Tokens_word 15 = .ok (.iconst (-1), 1) := by decide +kernel
theorem d_Tokens_word_16 : decode og_c_Tokens_word 16 = .ok (.ireturn, 1) := by decide +kernel
def m_Tokens_word : og_Dn := og_den [7] 1 0 (og_ret (og_ei (og_cc og_req (og_get 2 (og_loc 0)) (og_k 1)) (og_get 5 (og_loc 0)) (og_k (-1))))
set_option maxRecDepth 20000 in
theorem ok_Tokens_word : og_MOK og_y_Tokens_word og_c_Tokens_word 1 0 1 [7] m_Tokens_word := og_method (b := 0) (lt' := []) (by decide +kernel) (by decide) (by decide) (og_sreti (og_eite (og_ccn og_n_eq (og_ine (tgt := 15) (og_f_Tokens_kind (og_aload_n (i := 0) (t := 5) (j := 0) (by rfl) (by rfl) d_Tokens_word_0) og_w232 d_Tokens_word_1) (og_iconst (by decide) d_Tokens_word_4) d_Tokens_word_5 (by decide))) (og_f_Tokens_value (og_aload_n (i := 0) (t := 5) (j := 0) (by rfl) (by rfl) d_Tokens_word_8) og_w237 d_Tokens_word_9) d_Tokens_word_12 (by decide) (og_iconst (by decide) d_Tokens_word_15)) d_Tokens_word_16) (fun h => by cases h)
abbrev og_c_Tokens_failAt : ByteArray := prog_11_method_11_code
abbrev og_y_Tokens_failAt : MethodName := ⟨"OpenGraves$Tokens", "failAt", "(II)V"⟩
theorem v_Tokens_failAt {own : String} {idx dep : Nat} (h : 1 + 1 ≤ dep) : og_sV own idx og_y_Tokens_failAt og_c_Tokens_failAt 3 2 1 dep 3 2 := ⟨⟨2, og_sl_Tokens, og_T_Tokens, 10, rfl, by decide, rfl⟩, og_w523, og_w524, og_w6, og_w525, ⟨by decide +kernel, by decide +kernel, by decide +kernel⟩, h, by decide⟩
theorem d_Tokens_failAt_0 : decode og_c_Tokens_failAt 0 = .ok (.aload_n 0, 1) := by decide +kernel
theorem d_Tokens_failAt_1 : decode og_c_Tokens_failAt 1 = .ok (.getfield 38, 3) := by decide +kernel
theorem d_Tokens_failAt_4 : decode og_c_Tokens_failAt 4 = .ok (.ifCond .ne 18, 3) := by decide +kernel
theorem d_Tokens_failAt_7 : decode og_c_Tokens_failAt 7 = .ok (.aload_n 0, 1) := by decide +kernel
theorem d_Tokens_failAt_8 : decode og_c_Tokens_failAt 8 = .ok (.iload_n 1, 1) := by decide +kernel
theorem d_Tokens_failAt_9 : decode og_c_Tokens_failAt 9 = .ok (.putfield 38, 3) := by decide +kernel
theorem d_Tokens_failAt_12 : decode og_c_Tokens_failAt 12 = .ok (.aload_n 0, 1) := by decide +kernel
theorem d_Tokens_failAt_13 : decode og_c_Tokens_failAt 13 = .ok (.iload_n 2, 1) := by decide +kernel
theorem d_Tokens_failAt_14 : decode og_c_Tokens_failAt 14 = .ok (.putfield 15, 3) := by decide +kernel
theorem d_Tokens_failAt_17 : decode og_c_Tokens_failAt 17 = .ok (.aload_n 0, 1) := by decide +kernel
theorem d_Tokens_failAt_18 : decode og_c_Tokens_failAt 18 = .ok (.iconst 4, 1) := by decide +kernel
theorem d_Tokens_failAt_19 : decode og_c_Tokens_failAt 19 = .ok (.putfield 59, 3) := by decide +kernel
theorem d_Tokens_failAt_22 : decode og_c_Tokens_failAt 22 = .ok (.return_, 1) := by decide +kernel
def m_Tokens_failAt : og_Dn := og_den [7, 0, 0] 3 2 (og_if (og_cc og_req (og_get 7 (og_loc 0)) (og_k 0)) (og_seq (og_putf 7 (og_loc 0) (og_loc 1)) (og_seq (og_putf 8 (og_loc 0) (og_loc 2)) (og_putf 2 (og_loc 0) (og_k 4)))) (og_skip))
set_option maxRecDepth 20000 in
theorem ok_Tokens_failAt : og_MOK og_y_Tokens_failAt og_c_Tokens_failAt 3 2 1 [7, 0, 0] m_Tokens_failAt := og_method (b := 22) (lt' := [(0, 7), (1, 0), (2, 0)]) (by decide +kernel) (by decide) (by decide) (og_sif (T := 7) (F := 22) (og_ccn og_n_eq (og_zne (tgt := 22) (og_f_Tokens_faultKind (og_aload_n (i := 0) (t := 5) (j := 0) (by rfl) (by rfl) d_Tokens_failAt_0) og_w241 d_Tokens_failAt_1) d_Tokens_failAt_4 (by decide))) (og_sseq (og_p_Tokens_faultKind (og_aload_n (i := 0) (t := 5) (j := 0) (by rfl) (by rfl) d_Tokens_failAt_7) (og_iload_n (i := 1) (j := 1) (by rfl) (by rfl) d_Tokens_failAt_8) og_w241 d_Tokens_failAt_9) (og_sseq (og_p_Tokens_faultPlace (og_aload_n (i := 0) (t := 5) (j := 0) (by rfl) (by rfl) d_Tokens_failAt_12) (og_iload_n (i := 2) (j := 2) (by rfl) (by rfl) d_Tokens_failAt_13) og_w245 d_Tokens_failAt_14) (og_p_Tokens_kind (og_aload_n (i := 0) (t := 5) (j := 0) (by rfl) (by rfl) d_Tokens_failAt_17) (og_iconst (by decide) d_Tokens_failAt_18) og_w232 d_Tokens_failAt_19))) (og_sskip)) (fun _ => d_Tokens_failAt_22)
abbrev og_c_Tokens_fail : ByteArray := prog_11_method_10_code
abbrev og_y_Tokens_fail : MethodName := ⟨"OpenGraves$Tokens", "fail", "(I)V"⟩
theorem v_Tokens_fail {own : String} {idx dep : Nat} (h : 2 + 1 ≤ dep) : og_sV own idx og_y_Tokens_fail og_c_Tokens_fail 2 2 2 dep 3 1 := ⟨⟨2, og_sl_Tokens, og_T_Tokens, 10, rfl, by decide, rfl⟩, og_w519, og_w520, og_w6, og_w521, ⟨by decide +kernel, by decide +kernel, by decide +kernel⟩, h, by decide⟩
theorem d_Tokens_fail_0 : decode og_c_Tokens_fail 0 = .ok (.aload_n 0, 1) := by decide +kernel
theorem d_Tokens_fail_1 : decode og_c_Tokens_fail 1 = .ok (.iload_n 1, 1) := by decide +kernel
theorem d_Tokens_fail_2 : decode og_c_Tokens_fail 2 = .ok (.aload_n 0, 1) := by decide +kernel
theorem d_Tokens_fail_3 : decode og_c_Tokens_fail 3 = .ok (.getfield 56, 3) := by decide +kernel
theorem d_Tokens_fail_6 : decode og_c_Tokens_fail 6 = .ok (.invokevirtual 84, 3) := by decide +kernel
theorem d_Tokens_fail_9 : decode og_c_Tokens_fail 9 = .ok (.return_, 1) := by decide +kernel
def m_Tokens_fail : og_Dn := og_den [7, 0] 2 2 (og_exp (og_call m_Tokens_failAt [og_loc 0, og_loc 1, og_get 3 (og_loc 0)]))
set_option maxRecDepth 20000 in
theorem ok_Tokens_fail : og_MOK og_y_Tokens_fail og_c_Tokens_fail 2 2 2 [7, 0] m_Tokens_fail := og_method (b := 9) (lt' := [(0, 7), (1, 0)]) (by decide +kernel) (by decide) (by decide) (og_callVv (og_acons (og_aload_n (i := 0) (t := 5) (j := 0) (by rfl) (by rfl) d_Tokens_fail_0) (og_acons (og_iload_n (i := 1) (j := 1) (by rfl) (by rfl) d_Tokens_fail_1) (og_acons (og_f_Tokens_start (og_aload_n (i := 0) (t := 5) (j := 0) (by rfl) (by rfl) d_Tokens_fail_2) og_w233 d_Tokens_fail_3) (og_anil)))) ok_Tokens_failAt (v_Tokens_failAt (by decide)) og_w522 d_Tokens_fail_6) (fun _ => d_Tokens_fail_9)
abbrev og_c_Script_holds : ByteArray := prog_9_method_3_code
abbrev og_y_Script_holds : MethodName := ⟨"OpenGraves$Script", "holds", "(I)Z"⟩
theorem v_Script_holds {own : String} {idx dep : Nat} (h : 1 + 1 ≤ dep) : og_sV own idx og_y_Script_holds og_c_Script_holds 2 3 1 dep 11 1 := ⟨⟨10, og_sl_Script, og_T_Script, 4, rfl, by decide, rfl⟩, og_w531, og_w532, og_w4, og_w533, ⟨by decide +kernel, by decide +kernel, by decide +kernel⟩, h, by decide⟩
theorem d_Script_holds_0 : decode og_c_Script_holds 0 = .ok (.aload_n 0, 1) := by decide +kernel
theorem d_Script_holds_1 : decode og_c_Script_holds 1 = .ok (.getfield 15, 3) := by decide +kernel
theorem d_Script_holds_4 : decode og_c_Script_holds 4 = .ok (.iload_n 1, 1) := by decide +kernel
theorem d_Script_holds_5 : decode og_c_Script_holds 5 = .ok (.iaload, 1) := by decide +kernel
theorem d_Script_holds_6 : decode og_c_Script_holds 6 = .ok (.aload_n 0, 1) := by decide +kernel
theorem d_Script_holds_7 : decode og_c_Script_holds 7 = .ok (.getfield 18, 3) := by decide +kernel
theorem d_Script_holds_10 : decode og_c_Script_holds 10 = .ok (.iload_n 1, 1) := by decide +kernel
theorem d_Script_holds_11 : decode og_c_Script_holds 11 = .ok (.iaload, 1) := by decide +kernel
theorem d_Script_holds_12 : decode og_c_Script_holds 12 = .ok (.if_icmp .ge 7, 3) := by decide +kernel
theorem d_Script_holds_15 : decode og_c_Script_holds 15 = .ok (.iconst 1, 1) := by decide +kernel
theorem d_Script_holds_16 : decode og_c_Script_holds 16 = .ok (.goto 4, 3) := by decide +kernel
theorem d_Script_holds_19 : decode og_c_Script_holds 19 = .ok (.iconst 0, 1) := by decide +kernel
theorem d_Script_holds_20 : decode og_c_Script_holds 20 = .ok (.ireturn, 1) := by decide +kernel
def m_Script_holds : og_Dn := og_den [15, 0] 2 3 (og_retz (og_ec (og_cc og_rlt (og_ald 14 (og_fix (fun i => i + 2) (og_loc 0)) (og_loc 1)) (og_ald 14 (og_fix (fun i => i + 3) (og_loc 0)) (og_loc 1)))))
set_option maxRecDepth 20000 in
theorem ok_Script_holds : og_MOK og_y_Script_holds og_c_Script_holds 2 3 1 [15, 0] m_Script_holds := og_method (b := 0) (lt' := []) (by decide +kernel) (by decide) (by decide) (og_sretz (og_econd (b := 0) (og_ccn og_n_lt (og_ige (tgt := 19) (og_iald (N := 14) (og_f_Script_from (og_aload_n (i := 0) (t := 13) (j := 0) (by rfl) (by rfl) d_Script_holds_0) og_w133 d_Script_holds_1) (by rfl) (og_iload_n (i := 1) (j := 1) (by rfl) (by rfl) d_Script_holds_4) d_Script_holds_5) (og_iald (N := 14) (og_f_Script_to (og_aload_n (i := 0) (t := 13) (j := 0) (by rfl) (by rfl) d_Script_holds_6) og_w135 d_Script_holds_7) (by rfl) (og_iload_n (i := 1) (j := 1) (by rfl) (by rfl) d_Script_holds_10) d_Script_holds_11) d_Script_holds_12 (by decide))) d_Script_holds_15 d_Script_holds_16 (by decide) d_Script_holds_19 (by rfl)) d_Script_holds_20) (fun h => by cases h)
abbrev og_c_Parish_isOneTooMany : ByteArray := prog_5_method_5_code
abbrev og_y_Parish_isOneTooMany : MethodName := ⟨"OpenGraves$Parish", "isOneTooMany", "(I)Z"⟩
theorem v_Parish_isOneTooMany {own : String} {idx dep : Nat} (h : 2 + 1 ≤ dep) : og_sV own idx og_y_Parish_isOneTooMany og_c_Parish_isOneTooMany 2 3 2 dep 10 1 := ⟨⟨9, og_sl_Parish, og_T_Parish, 3, rfl, by decide, rfl⟩, og_w528, (og_memP (⟨"OpenGraves$Parish", "isOneTooMany", "(I)Z"⟩, 3) (List.mem_of_getElem? (i := 5) (by decide +kernel))), og_w2, og_w529, ⟨by decide +kernel, by decide +kernel, by decide +kernel⟩, h, by decide⟩
theorem d_Parish_isOneTooMany_0 : decode og_c_Parish_isOneTooMany 0 = .ok (.iload_n 1, 1) := by decide +kernel
theorem d_Parish_isOneTooMany_1 : decode og_c_Parish_isOneTooMany 1 = .ok (.lookupswitch 63 #[(0, 27), (4, 45)], 27) := by decide +kernel
theorem d_Parish_isOneTooMany_28 : decode og_c_Parish_isOneTooMany 28 = .ok (.aload_n 0, 1) := by decide +kernel
theorem d_Parish_isOneTooMany_29 : decode og_c_Parish_isOneTooMany 29 = .ok (.getfield 12, 3) := by decide +kernel
theorem d_Parish_isOneTooMany_32 : decode og_c_Parish_isOneTooMany 32 = .ok (.getfield 71, 3) := by decide +kernel
theorem d_Parish_isOneTooMany_35 : decode og_c_Parish_isOneTooMany 35 = .ok (.bipush 6, 2) := by decide +kernel
theorem d_Parish_isOneTooMany_37 : decode og_c_Parish_isOneTooMany 37 = .ok (.if_icmp .lt 7, 3) := by decide +kernel
theorem d_Parish_isOneTooMany_40 : decode og_c_Parish_isOneTooMany 40 = .ok (.iconst 1, 1) := by decide +kernel
theorem d_Parish_isOneTooMany_41 : decode og_c_Parish_isOneTooMany 41 = .ok (.goto 4, 3) := by decide +kernel
theorem d_Parish_isOneTooMany_44 : decode og_c_Parish_isOneTooMany 44 = .ok (.iconst 0, 1) := by decide +kernel
theorem d_Parish_isOneTooMany_45 : decode og_c_Parish_isOneTooMany 45 = .ok (.ireturn, 1) := by decide +kernel
theorem d_Parish_isOneTooMany_46 : decode og_c_Parish_isOneTooMany 46 = .ok (.aload_n 0, 1) := by decide +kernel
theorem d_Parish_isOneTooMany_47 : decode og_c_Parish_isOneTooMany 47 = .ok (.getfield 12, 3) := by decide +kernel
theorem d_Parish_isOneTooMany_50 : decode og_c_Parish_isOneTooMany 50 = .ok (.getfield 78, 3) := by decide +kernel
theorem d_Parish_isOneTooMany_53 : decode og_c_Parish_isOneTooMany 53 = .ok (.bipush 8, 2) := by decide +kernel
theorem d_Parish_isOneTooMany_55 : decode og_c_Parish_isOneTooMany 55 = .ok (.if_icmp .lt 7, 3) := by decide +kernel
theorem d_Parish_isOneTooMany_58 : decode og_c_Parish_isOneTooMany 58 = .ok (.iconst 1, 1) := by decide +kernel
theorem d_Parish_isOneTooMany_59 : decode og_c_Parish_isOneTooMany 59 = .ok (.goto 4, 3) := by decide +kernel
theorem d_Parish_isOneTooMany_62 : decode og_c_Parish_isOneTooMany 62 = .ok (.iconst 0, 1) := by decide +kernel
theorem d_Parish_isOneTooMany_63 : decode og_c_Parish_isOneTooMany 63 = .ok (.ireturn, 1) := by decide +kernel
theorem d_Parish_isOneTooMany_64 : decode og_c_Parish_isOneTooMany 64 = .ok (.aload_n 0, 1) := by decide +kernel
theorem d_Parish_isOneTooMany_65 : decode og_c_Parish_isOneTooMany 65 = .ok (.getfield 21, 3) := by decide +kernel
theorem d_Parish_isOneTooMany_68 : decode og_c_Parish_isOneTooMany 68 = .ok (.iload_n 1, 1) := by decide +kernel
theorem d_Parish_isOneTooMany_69 : decode og_c_Parish_isOneTooMany 69 = .ok (.invokevirtual 90, 3) := by decide +kernel
theorem d_Parish_isOneTooMany_72 : decode og_c_Parish_isOneTooMany 72 = .ok (.ireturn, 1) := by decide +kernel
def m_Parish_isOneTooMany : og_Dn := og_den [14, 0] 2 3 (og_sw (og_loc 1) (fun x => og_cs x [0] (og_retz (og_ec (og_cc og_rge (og_get 0 (og_fix (fun i => i + 90) (og_loc 0))) (og_k 6)))) (og_cs x [4] (og_retz (og_ec (og_cc og_rge (og_get 1 (og_fix (fun i => i + 90) (og_loc 0))) (og_k 8)))) (og_retz (og_call m_Script_holds [og_fix (fun i => i + 2) (og_loc 0), og_loc 1])))))
set_option maxRecDepth 20000 in
theorem ok_Parish_isOneTooMany : og_MOK og_y_Parish_isOneTooMany og_c_Parish_isOneTooMany 2 3 2 [14, 0] m_Parish_isOneTooMany := og_method (b := 0) (lt' := []) (by decide +kernel) (by decide) (by decide) (og_slook (b1 := 0) (d := 64) (cs := [(0, 28), (4, 46)]) (og_iload_n (i := 1) (j := 1) (by rfl) (by rfl) d_Parish_isOneTooMany_0) d_Parish_isOneTooMany_1 (by decide) (by decide) (og_lkeq (by decide)) (fun x => og_scs (fun hx => og_sat (by simp at hx; subst hx; rfl) (og_sretz (og_econd (b := 0) (og_ccn og_n_ge (og_ilt (tgt := 44) (og_f_Yard_graves_N (og_f_Parish_beginning (og_aload_n (i := 0) (t := 12) (j := 0) (by rfl) (by rfl) d_Parish_isOneTooMany_28) og_w147 d_Parish_isOneTooMany_29) og_w44 d_Parish_isOneTooMany_32) (og_bipush (by decide) d_Parish_isOneTooMany_35) d_Parish_isOneTooMany_37 (by decide))) d_Parish_isOneTooMany_40 d_Parish_isOneTooMany_41 (by decide) d_Parish_isOneTooMany_44 (by rfl)) d_Parish_isOneTooMany_45)) (fun hx => og_scs (fun hx => og_sat (by simp at hx; subst hx; rfl) (og_sretz (og_econd (b := 0) (og_ccn og_n_ge (og_ilt (tgt := 62) (og_f_Yard_people_N (og_f_Parish_beginning (og_aload_n (i := 0) (t := 12) (j := 0) (by rfl) (by rfl) d_Parish_isOneTooMany_46) og_w147 d_Parish_isOneTooMany_47) og_w51 d_Parish_isOneTooMany_50) (og_bipush (by decide) d_Parish_isOneTooMany_53) d_Parish_isOneTooMany_55 (by decide))) d_Parish_isOneTooMany_58 d_Parish_isOneTooMany_59 (by decide) d_Parish_isOneTooMany_62 (by rfl)) d_Parish_isOneTooMany_63)) (fun hx => og_sat (og_lkn (by simp_all)) (og_sretz (og_callVz (og_acons (og_f_Parish_rules (og_aload_n (i := 0) (t := 12) (j := 0) (by rfl) (by rfl) d_Parish_isOneTooMany_64) og_w149 d_Parish_isOneTooMany_65) (og_acons (og_iload_n (i := 1) (j := 1) (by rfl) (by rfl) d_Parish_isOneTooMany_68) (og_anil))) (by decide) ok_Script_holds (v_Script_holds (by decide)) og_w530 d_Parish_isOneTooMany_69) d_Parish_isOneTooMany_72))))) (fun h => by cases h)
abbrev og_c_Tokens_isName : ByteArray := prog_11_method_17_code
abbrev og_y_Tokens_isName : MethodName := ⟨"OpenGraves$Tokens", "isName", "()Z"⟩
theorem v_Tokens_isName {own : String} {idx dep : Nat} (h : 1 + 1 ≤ dep) : og_sV own idx og_y_Tokens_isName og_c_Tokens_isName 1 3 1 dep 3 0 := ⟨⟨2, og_sl_Tokens, og_T_Tokens, 10, rfl, by decide, rfl⟩, og_w544, og_w545, og_w6, og_w546, ⟨by decide +kernel, by decide +kernel, by decide +kernel⟩, h, by decide⟩
theorem d_Tokens_isName_0 : decode og_c_Tokens_isName 0 = .ok (.aload_n 0, 1) := by decide +kernel
theorem d_Tokens_isName_1 : decode og_c_Tokens_isName 1 = .ok (.getfield 59, 3) := by decide +kernel
theorem d_Tokens_isName_4 : decode og_c_Tokens_isName 4 = .ok (.iconst 1, 1) := by decide +kernel
theorem d_Tokens_isName_5 : decode og_c_Tokens_isName 5 = .ok (.if_icmp .ne 24, 3) := by decide +kernel
theorem d_Tokens_isName_8 : decode og_c_Tokens_isName 8 = .ok (.aload_n 0, 1) := by decide +kernel
theorem d_Tokens_isName_9 : decode og_c_Tokens_isName 9 = .ok (.getfield 74, 3) := by decide +kernel
theorem d_Tokens_isName_12 : decode og_c_Tokens_isName 12 = .ok (.iconst (-1), 1) := by decide +kernel
theorem d_Tokens_isName_13 : decode og_c_Tokens_isName 13 = .ok (.if_icmp .eq 12, 3) := by decide +kernel
theorem d_Tokens_isName_16 : decode og_c_Tokens_isName 16 = .ok (.aload_n 0, 1) := by decide +kernel
theorem d_Tokens_isName_17 : decode og_c_Tokens_isName 17 = .ok (.getfield 74, 3) := by decide +kernel
theorem d_Tokens_isName_20 : decode og_c_Tokens_isName 20 = .ok (.bipush 25, 2) := by decide +kernel
theorem d_Tokens_isName_22 : decode og_c_Tokens_isName 22 = .ok (.if_icmp .lt 7, 3) := by decide +kernel
theorem d_Tokens_isName_25 : decode og_c_Tokens_isName 25 = .ok (.iconst 1, 1) := by decide +kernel
theorem d_Tokens_isName_26 : decode og_c_Tokens_isName 26 = .ok (.goto 4, 3) := by decide +kernel
theorem d_Tokens_isName_29 : decode og_c_Tokens_isName 29 = .ok (.iconst 0, 1) := by decide +kernel
theorem d_Tokens_isName_30 : decode og_c_Tokens_isName 30 = .ok (.ireturn, 1) := by decide +kernel
def m_Tokens_isName : og_Dn := og_den [7] 1 3 (og_retz (og_ec (og_and (og_cc og_req (og_get 2 (og_loc 0)) (og_k 1)) (og_or (og_cc og_req (og_get 5 (og_loc 0)) (og_k (-1))) (og_cc og_rge (og_get 5 (og_loc 0)) (og_k 25))))))
set_option maxRecDepth 20000 in
theorem ok_Tokens_isName : og_MOK og_y_Tokens_isName og_c_Tokens_isName 1 3 1 [7] m_Tokens_isName := og_method (b := 0) (lt' := []) (by decide +kernel) (by decide) (by decide) (og_sretz (og_econd (b := 0) (og_cand (og_ccn og_n_eq (og_ine (tgt := 29) (og_f_Tokens_kind (og_aload_n (i := 0) (t := 5) (j := 0) (by rfl) (by rfl) d_Tokens_isName_0) og_w232 d_Tokens_isName_1) (og_iconst (by decide) d_Tokens_isName_4) d_Tokens_isName_5 (by decide))) (og_cor (og_ieq (tgt := 25) (og_f_Tokens_value (og_aload_n (i := 0) (t := 5) (j := 0) (by rfl) (by rfl) d_Tokens_isName_8) og_w237 d_Tokens_isName_9) (og_iconst (by decide) d_Tokens_isName_12) d_Tokens_isName_13 (by decide)) (og_ccn og_n_ge (og_ilt (tgt := 29) (og_f_Tokens_value (og_aload_n (i := 0) (t := 5) (j := 0) (by rfl) (by rfl) d_Tokens_isName_16) og_w237 d_Tokens_isName_17) (og_bipush (by decide) d_Tokens_isName_20) d_Tokens_isName_22 (by decide))))) d_Tokens_isName_25 d_Tokens_isName_26 (by decide) d_Tokens_isName_29 (by rfl)) d_Tokens_isName_30) (fun h => by cases h)
abbrev og_c_Parish_isThere : ByteArray := prog_5_method_9_code
abbrev og_y_Parish_isThere : MethodName := ⟨"OpenGraves$Parish", "isThere", "(I)Z"⟩
theorem v_Parish_isThere {own : String} {idx dep : Nat} (h : 1 + 1 ≤ dep) : og_sV own idx og_y_Parish_isThere og_c_Parish_isThere 4 3 1 dep 10 1 := ⟨⟨9, og_sl_Parish, og_T_Parish, 3, rfl, by decide, rfl⟩, og_w550, (og_memP (⟨"OpenGraves$Parish", "isThere", "(I)Z"⟩, 3) (List.mem_of_getElem? (i := 8) (by decide +kernel))), og_w2, og_w551, ⟨by decide +kernel, by decide +kernel, by decide +kernel⟩, h, by decide⟩
theorem d_Parish_isThere_0 : decode og_c_Parish_isThere 0 = .ok (.iconst 0, 1) := by decide +kernel
theorem d_Parish_isThere_1 : decode og_c_Parish_isThere 1 = .ok (.istore_n 2, 1) := by decide +kernel
theorem d_Parish_isThere_2 : decode og_c_Parish_isThere 2 = .ok (.iconst 0, 1) := by decide +kernel
theorem d_Parish_isThere_3 : decode og_c_Parish_isThere 3 = .ok (.istore_n 3, 1) := by decide +kernel
theorem d_Parish_isThere_4 : decode og_c_Parish_isThere 4 = .ok (.iload_n 3, 1) := by decide +kernel
theorem d_Parish_isThere_5 : decode og_c_Parish_isThere 5 = .ok (.aload_n 0, 1) := by decide +kernel
theorem d_Parish_isThere_6 : decode og_c_Parish_isThere 6 = .ok (.getfield 12, 3) := by decide +kernel
theorem d_Parish_isThere_9 : decode og_c_Parish_isThere 9 = .ok (.getfield 71, 3) := by decide +kernel
theorem d_Parish_isThere_12 : decode og_c_Parish_isThere 12 = .ok (.if_icmp .ge 29, 3) := by decide +kernel
theorem d_Parish_isThere_15 : decode og_c_Parish_isThere 15 = .ok (.iload_n 2, 1) := by decide +kernel
theorem d_Parish_isThere_16 : decode og_c_Parish_isThere 16 = .ok (.ifCond .ne 25, 3) := by decide +kernel
theorem d_Parish_isThere_19 : decode og_c_Parish_isThere 19 = .ok (.aload_n 0, 1) := by decide +kernel
theorem d_Parish_isThere_20 : decode og_c_Parish_isThere 20 = .ok (.getfield 25, 3) := by decide +kernel
theorem d_Parish_isThere_23 : decode og_c_Parish_isThere 23 = .ok (.iload_n 3, 1) := by decide +kernel
theorem d_Parish_isThere_24 : decode og_c_Parish_isThere 24 = .ok (.iaload, 1) := by decide +kernel
theorem d_Parish_isThere_25 : decode og_c_Parish_isThere 25 = .ok (.iload_n 1, 1) := by decide +kernel
theorem d_Parish_isThere_26 : decode og_c_Parish_isThere 26 = .ok (.if_icmp .ne 7, 3) := by decide +kernel
theorem d_Parish_isThere_29 : decode og_c_Parish_isThere 29 = .ok (.iconst 1, 1) := by decide +kernel
theorem d_Parish_isThere_30 : decode og_c_Parish_isThere 30 = .ok (.goto 4, 3) := by decide +kernel
theorem d_Parish_isThere_33 : decode og_c_Parish_isThere 33 = .ok (.iconst 0, 1) := by decide +kernel
theorem d_Parish_isThere_34 : decode og_c_Parish_isThere 34 = .ok (.istore_n 2, 1) := by decide +kernel
theorem d_Parish_isThere_35 : decode og_c_Parish_isThere 35 = .ok (.iinc 3 1, 3) := by decide +kernel
theorem d_Parish_isThere_38 : decode og_c_Parish_isThere 38 = .ok (.goto (-34), 3) := by decide +kernel
theorem d_Parish_isThere_41 : decode og_c_Parish_isThere 41 = .ok (.iconst 0, 1) := by decide +kernel
theorem d_Parish_isThere_42 : decode og_c_Parish_isThere 42 = .ok (.istore_n 3, 1) := by decide +kernel
theorem d_Parish_isThere_43 : decode og_c_Parish_isThere 43 = .ok (.iload_n 3, 1) := by decide +kernel
theorem d_Parish_isThere_44 : decode og_c_Parish_isThere 44 = .ok (.aload_n 0, 1) := by decide +kernel
theorem d_Parish_isThere_45 : decode og_c_Parish_isThere 45 = .ok (.getfield 12, 3) := by decide +kernel
theorem d_Parish_isThere_48 : decode og_c_Parish_isThere 48 = .ok (.getfield 78, 3) := by decide +kernel
theorem d_Parish_isThere_51 : decode og_c_Parish_isThere 51 = .ok (.if_icmp .ge 32, 3) := by decide +kernel
theorem d_Parish_isThere_54 : decode og_c_Parish_isThere 54 = .ok (.iload_n 2, 1) := by decide +kernel
theorem d_Parish_isThere_55 : decode og_c_Parish_isThere 55 = .ok (.ifCond .ne 28, 3) := by decide +kernel
theorem d_Parish_isThere_58 : decode og_c_Parish_isThere 58 = .ok (.aload_n 0, 1) := by decide +kernel
theorem d_Parish_isThere_59 : decode og_c_Parish_isThere 59 = .ok (.getfield 25, 3) := by decide +kernel
theorem d_Parish_isThere_62 : decode og_c_Parish_isThere 62 = .ok (.bipush 6, 2) := by decide +kernel
theorem d_Parish_isThere_64 : decode og_c_Parish_isThere 64 = .ok (.iload_n 3, 1) := by decide +kernel
theorem d_Parish_isThere_65 : decode og_c_Parish_isThere 65 = .ok (.iadd, 1) := by decide +kernel
theorem d_Parish_isThere_66 : decode og_c_Parish_isThere 66 = .ok (.iaload, 1) := by decide +kernel
theorem d_Parish_isThere_67 : decode og_c_Parish_isThere 67 = .ok (.iload_n 1, 1) := by decide +kernel
theorem d_Parish_isThere_68 : decode og_c_Parish_isThere 68 = .ok (.if_icmp .ne 7, 3) := by decide +kernel
theorem d_Parish_isThere_71 : decode og_c_Parish_isThere 71 = .ok (.iconst 1, 1) := by decide +kernel
theorem d_Parish_isThere_72 : decode og_c_Parish_isThere 72 = .ok (.goto 4, 3) := by decide +kernel
theorem d_Parish_isThere_75 : decode og_c_Parish_isThere 75 = .ok (.iconst 0, 1) := by decide +kernel
theorem d_Parish_isThere_76 : decode og_c_Parish_isThere 76 = .ok (.istore_n 2, 1) := by decide +kernel
theorem d_Parish_isThere_77 : decode og_c_Parish_isThere 77 = .ok (.iinc 3 1, 3) := by decide +kernel
theorem d_Parish_isThere_80 : decode og_c_Parish_isThere 80 = .ok (.goto (-37), 3) := by decide +kernel
theorem d_Parish_isThere_83 : decode og_c_Parish_isThere 83 = .ok (.iload_n 2, 1) := by decide +kernel
theorem d_Parish_isThere_84 : decode og_c_Parish_isThere 84 = .ok (.ireturn, 1) := by decide +kernel
def m_Parish_isThere : og_Dn := og_den [14, 0] 4 3 (og_seq (og_set 2 (og_k 0)) (og_cut (og_seq (og_set 3 (og_k 0)) (og_while (og_and (og_cc og_rlt (og_loc 3) (og_get 0 (og_fix (fun i => i + 90) (og_loc 0)))) (og_not (og_cb (og_loc 2)))) (og_set 2 (og_ec (og_cc og_req (og_ald 14 (og_fix (fun i => i + 1) (og_loc 0)) (og_loc 3)) (og_loc 1)))) (og_inc 3 1))) (og_cut (og_seq (og_set 3 (og_k 0)) (og_while (og_and (og_cc og_rlt (og_loc 3) (og_get 1 (og_fix (fun i => i + 90) (og_loc 0)))) (og_not (og_cb (og_loc 2)))) (og_set 2 (og_ec (og_cc og_req (og_ald 14 (og_fix (fun i => i + 1) (og_loc 0)) (og_add (og_k 6) (og_loc 3))) (og_loc 1)))) (og_inc 3 1))) (og_retz (og_loc 2)))))
set_option maxRecDepth 20000 in
theorem ok_Parish_isThere : og_MOK og_y_Parish_isThere og_c_Parish_isThere 4 3 1 [14, 0] m_Parish_isThere := og_method (b := 0) (lt' := []) (by decide +kernel) (by decide) (by decide) (og_sseq (og_istore_n (i := 2) (lt' := [(0, 14), (1, 0), (2, 0)]) (og_iconst (by decide) d_Parish_isThere_0) (by rfl) (by decide) (by decide) d_Parish_isThere_1) (og_scut (og_sdrop (lt' := [(0, 14), (1, 0), (2, 0), (3, 0)]) (lt2 := [(0, 14), (1, 0), (2, 0)]) (og_sseq (og_istore_n (i := 3) (lt' := [(0, 14), (1, 0), (2, 0), (3, 0)]) (og_iconst (by decide) d_Parish_isThere_2) (by rfl) (by decide) (by decide) d_Parish_isThere_3) (og_swhile (T := 19) (F := 41) (cp0 := 35) (og_cand (og_ccn og_n_lt (og_ige (tgt := 41) (og_iload_n (i := 3) (j := 3) (by rfl) (by rfl) d_Parish_isThere_4) (og_f_Yard_graves_N (og_f_Parish_beginning (og_aload_n (i := 0) (t := 12) (j := 0) (by rfl) (by rfl) d_Parish_isThere_5) og_w147 d_Parish_isThere_6) og_w44 d_Parish_isThere_9) d_Parish_isThere_12 (by decide))) (og_cnot (og_cbne (tgt := 41) (og_iload_n (i := 2) (j := 2) (by rfl) (by rfl) d_Parish_isThere_15) d_Parish_isThere_16 (by decide)))) (og_istore_n (i := 2) (lt' := [(0, 14), (1, 0), (2, 0), (3, 0)]) (og_econd (b := 0) (og_ccn og_n_eq (og_ine (tgt := 33) (og_iald (N := 14) (og_f_Parish_names (og_aload_n (i := 0) (t := 12) (j := 0) (by rfl) (by rfl) d_Parish_isThere_19) og_w151 d_Parish_isThere_20) (by rfl) (og_iload_n (i := 3) (j := 3) (by rfl) (by rfl) d_Parish_isThere_23) d_Parish_isThere_24) (og_iload_n (i := 1) (j := 1) (by rfl) (by rfl) d_Parish_isThere_25) d_Parish_isThere_26 (by decide))) d_Parish_isThere_29 d_Parish_isThere_30 (by decide) d_Parish_isThere_33 (by rfl)) (by rfl) (by decide) (by decide) d_Parish_isThere_34) (og_gS (b' := 4) (og_iinc (j := 3) (lt' := [(0, 14), (1, 0), (2, 0), (3, 0)]) (by rfl) (by decide) (by decide) d_Parish_isThere_35) d_Parish_isThere_38 (by decide)))) (by decide)) (og_scut (og_sdrop (lt' := [(0, 14), (1, 0), (2, 0), (3, 0)]) (lt2 := [(0, 14), (1, 0), (2, 0)]) (og_sseq (og_istore_n (i := 3) (lt' := [(0, 14), (1, 0), (2, 0), (3, 0)]) (og_iconst (by decide) d_Parish_isThere_41) (by rfl) (by decide) (by decide) d_Parish_isThere_42) (og_swhile (T := 58) (F := 83) (cp0 := 77) (og_cand (og_ccn og_n_lt (og_ige (tgt := 83) (og_iload_n (i := 3) (j := 3) (by rfl) (by rfl) d_Parish_isThere_43) (og_f_Yard_people_N (og_f_Parish_beginning (og_aload_n (i := 0) (t := 12) (j := 0) (by rfl) (by rfl) d_Parish_isThere_44) og_w147 d_Parish_isThere_45) og_w51 d_Parish_isThere_48) d_Parish_isThere_51 (by decide))) (og_cnot (og_cbne (tgt := 83) (og_iload_n (i := 2) (j := 2) (by rfl) (by rfl) d_Parish_isThere_54) d_Parish_isThere_55 (by decide)))) (og_istore_n (i := 2) (lt' := [(0, 14), (1, 0), (2, 0), (3, 0)]) (og_econd (b := 0) (og_ccn og_n_eq (og_ine (tgt := 75) (og_iald (N := 14) (og_f_Parish_names (og_aload_n (i := 0) (t := 12) (j := 0) (by rfl) (by rfl) d_Parish_isThere_58) og_w151 d_Parish_isThere_59) (by rfl) (og_iadd (og_bipush (by decide) d_Parish_isThere_62) (og_iload_n (i := 3) (j := 3) (by rfl) (by rfl) d_Parish_isThere_64) d_Parish_isThere_65) d_Parish_isThere_66) (og_iload_n (i := 1) (j := 1) (by rfl) (by rfl) d_Parish_isThere_67) d_Parish_isThere_68 (by decide))) d_Parish_isThere_71 d_Parish_isThere_72 (by decide) d_Parish_isThere_75 (by rfl)) (by rfl) (by decide) (by decide) d_Parish_isThere_76) (og_gS (b' := 43) (og_iinc (j := 3) (lt' := [(0, 14), (1, 0), (2, 0), (3, 0)]) (by rfl) (by decide) (by decide) d_Parish_isThere_77) d_Parish_isThere_80 (by decide)))) (by decide)) (og_sretz (og_iload_n (i := 2) (j := 2) (by rfl) (by rfl) d_Parish_isThere_83) d_Parish_isThere_84)))) (fun h => by cases h)
abbrev og_c_Parish_readName : ByteArray := prog_5_method_8_code
abbrev og_y_Parish_readName : MethodName := ⟨"OpenGraves$Parish", "readName", "(LOpenGraves$Tokens;I)V"⟩
theorem v_Parish_readName {own : String} {idx dep : Nat} (h : 4 + 1 ≤ dep) : og_sV own idx og_y_Parish_readName og_c_Parish_readName 3 2 4 dep 10 2 := ⟨⟨9, og_sl_Parish, og_T_Parish, 3, rfl, by decide, rfl⟩, og_w541, (og_memP (⟨"OpenGraves$Parish", "readName", "(LOpenGraves$Tokens;I)V"⟩, 3) (List.mem_of_getElem? (i := 7) (by decide +kernel))), og_w2, og_w542, ⟨by decide +kernel, by decide +kernel, by decide +kernel⟩, h, by decide⟩
theorem d_Parish_readName_0 : decode og_c_Parish_readName 0 = .ok (.aload_n 1, 1) := by decide +kernel
theorem d_Parish_readName_1 : decode og_c_Parish_readName 1 = .ok (.invokevirtual 127, 3) := by decide +kernel
theorem d_Parish_readName_4 : decode og_c_Parish_readName 4 = .ok (.ifCond .ne 11, 3) := by decide +kernel
theorem d_Parish_readName_7 : decode og_c_Parish_readName 7 = .ok (.aload_n 1, 1) := by decide +kernel
theorem d_Parish_readName_8 : decode og_c_Parish_readName 8 = .ok (.iconst 1, 1) := by decide +kernel
theorem d_Parish_readName_9 : decode og_c_Parish_readName 9 = .ok (.invokevirtual 61, 3) := by decide +kernel
theorem d_Parish_readName_12 : decode og_c_Parish_readName 12 = .ok (.goto 60, 3) := by decide +kernel
theorem d_Parish_readName_15 : decode og_c_Parish_readName 15 = .ok (.aload_n 1, 1) := by decide +kernel
theorem d_Parish_readName_16 : decode og_c_Parish_readName 16 = .ok (.getfield 130, 3) := by decide +kernel
theorem d_Parish_readName_19 : decode og_c_Parish_readName 19 = .ok (.bipush 6, 2) := by decide +kernel
theorem d_Parish_readName_21 : decode og_c_Parish_readName 21 = .ok (.if_icmp .le 18, 3) := by decide +kernel
theorem d_Parish_readName_24 : decode og_c_Parish_readName 24 = .ok (.aload_n 1, 1) := by decide +kernel
theorem d_Parish_readName_25 : decode og_c_Parish_readName 25 = .ok (.iconst 1, 1) := by decide +kernel
theorem d_Parish_readName_26 : decode og_c_Parish_readName 26 = .ok (.aload_n 1, 1) := by decide +kernel
theorem d_Parish_readName_27 : decode og_c_Parish_readName 27 = .ok (.getfield 133, 3) := by decide +kernel
theorem d_Parish_readName_30 : decode og_c_Parish_readName 30 = .ok (.bipush 6, 2) := by decide +kernel
theorem d_Parish_readName_32 : decode og_c_Parish_readName 32 = .ok (.iadd, 1) := by decide +kernel
theorem d_Parish_readName_33 : decode og_c_Parish_readName 33 = .ok (.invokevirtual 136, 3) := by decide +kernel
theorem d_Parish_readName_36 : decode og_c_Parish_readName 36 = .ok (.goto 36, 3) := by decide +kernel
theorem d_Parish_readName_39 : decode og_c_Parish_readName 39 = .ok (.aload_n 0, 1) := by decide +kernel
theorem d_Parish_readName_40 : decode og_c_Parish_readName 40 = .ok (.aload_n 1, 1) := by decide +kernel
theorem d_Parish_readName_41 : decode og_c_Parish_readName 41 = .ok (.getfield 140, 3) := by decide +kernel
theorem d_Parish_readName_44 : decode og_c_Parish_readName 44 = .ok (.invokevirtual 143, 3) := by decide +kernel
theorem d_Parish_readName_47 : decode og_c_Parish_readName 47 = .ok (.ifCond .eq 11, 3) := by decide +kernel
theorem d_Parish_readName_50 : decode og_c_Parish_readName 50 = .ok (.aload_n 1, 1) := by decide +kernel
theorem d_Parish_readName_51 : decode og_c_Parish_readName 51 = .ok (.iconst 3, 1) := by decide +kernel
theorem d_Parish_readName_52 : decode og_c_Parish_readName 52 = .ok (.invokevirtual 61, 3) := by decide +kernel
theorem d_Parish_readName_55 : decode og_c_Parish_readName 55 = .ok (.goto 17, 3) := by decide +kernel
theorem d_Parish_readName_58 : decode og_c_Parish_readName 58 = .ok (.aload_n 0, 1) := by decide +kernel
theorem d_Parish_readName_59 : decode og_c_Parish_readName 59 = .ok (.getfield 25, 3) := by decide +kernel
theorem d_Parish_readName_62 : decode og_c_Parish_readName 62 = .ok (.iload_n 2, 1) := by decide +kernel
theorem d_Parish_readName_63 : decode og_c_Parish_readName 63 = .ok (.aload_n 1, 1) := by decide +kernel
theorem d_Parish_readName_64 : decode og_c_Parish_readName 64 = .ok (.getfield 140, 3) := by decide +kernel
theorem d_Parish_readName_67 : decode og_c_Parish_readName 67 = .ok (.iastore, 1) := by decide +kernel
theorem d_Parish_readName_68 : decode og_c_Parish_readName 68 = .ok (.aload_n 1, 1) := by decide +kernel
theorem d_Parish_readName_69 : decode og_c_Parish_readName 69 = .ok (.invokevirtual 68, 3) := by decide +kernel
theorem d_Parish_readName_72 : decode og_c_Parish_readName 72 = .ok (.return_, 1) := by decide +kernel
def m_Parish_readName : og_Dn := og_den [14, 7, 0] 3 2 (og_if (og_not (og_cb (og_call m_Tokens_isName [og_loc 1]))) (og_exp (og_call m_Tokens_fail [og_loc 1, og_k 1])) (og_if (og_cc og_rgt (og_get 4 (og_loc 1)) (og_k 6)) (og_exp (og_call m_Tokens_failAt [og_loc 1, og_k 1, og_add (og_get 3 (og_loc 1)) (og_k 6)])) (og_if (og_cb (og_call m_Parish_isThere [og_loc 0, og_get 6 (og_loc 1)])) (og_exp (og_call m_Tokens_fail [og_loc 1, og_k 3])) (og_seq (og_ast 14 (og_fix (fun i => i + 1) (og_loc 0)) (og_loc 2) (og_get 6 (og_loc 1))) (og_exp (og_call m_Tokens_step [og_loc 1]))))))
set_option maxRecDepth 20000 in
theorem ok_Parish_readName : og_MOK og_y_Parish_readName og_c_Parish_readName 3 2 4 [14, 7, 0] m_Parish_readName := og_method (b := 72) (lt' := [(0, 14), (1, 7), (2, 0)]) (by decide +kernel) (by decide) (by decide) (og_sif (T := 7) (F := 15) (og_cnot (og_cbne (tgt := 15) (og_callVz (og_acons (og_aload_n (i := 1) (t := 5) (j := 1) (by rfl) (by rfl) d_Parish_readName_0) (og_anil)) (by decide) ok_Tokens_isName (v_Tokens_isName (by decide)) og_w543 d_Parish_readName_1) d_Parish_readName_4 (by decide))) (og_gS (b' := 72) (og_callVv (og_acons (og_aload_n (i := 1) (t := 5) (j := 1) (by rfl) (by rfl) d_Parish_readName_7) (og_acons (og_iconst (by decide) d_Parish_readName_8) (og_anil))) ok_Tokens_fail (v_Tokens_fail (by decide)) og_w518 d_Parish_readName_9) d_Parish_readName_12 (by decide)) (og_sif (T := 24) (F := 39) (og_ccn og_n_gt (og_ile (tgt := 39) (og_f_Tokens_size_N (og_aload_n (i := 1) (t := 5) (j := 1) (by rfl) (by rfl) d_Parish_readName_15) og_w236 d_Parish_readName_16) (og_bipush (by decide) d_Parish_readName_19) d_Parish_readName_21 (by decide))) (og_gS (b' := 72) (og_callVv (og_acons (og_aload_n (i := 1) (t := 5) (j := 1) (by rfl) (by rfl) d_Parish_readName_24) (og_acons (og_iconst (by decide) d_Parish_readName_25) (og_acons (og_iadd (og_f_Tokens_start_N (og_aload_n (i := 1) (t := 5) (j := 1) (by rfl) (by rfl) d_Parish_readName_26) og_w234 d_Parish_readName_27) (og_bipush (by decide) d_Parish_readName_30) d_Parish_readName_32) (og_anil)))) ok_Tokens_failAt (v_Tokens_failAt (by decide)) og_w547 d_Parish_readName_33) d_Parish_readName_36 (by decide)) (og_sif (T := 50) (F := 58) (og_cbeq (tgt := 58) (og_callVz (og_acons (og_aload_n (i := 0) (t := 12) (j := 0) (by rfl) (by rfl) d_Parish_readName_39) (og_acons (og_f_Tokens_spelling_N (og_aload_n (i := 1) (t := 5) (j := 1) (by rfl) (by rfl) d_Parish_readName_40) og_w240 d_Parish_readName_41) (og_anil))) (by decide) ok_Parish_isThere (v_Parish_isThere (by decide)) og_w548 d_Parish_readName_44) d_Parish_readName_47 (by decide)) (og_gS (b' := 72) (og_callVv (og_acons (og_aload_n (i := 1) (t := 5) (j := 1) (by rfl) (by rfl) d_Parish_readName_50) (og_acons (og_iconst (by decide) d_Parish_readName_51) (og_anil))) ok_Tokens_fail (v_Tokens_fail (by decide)) og_w518 d_Parish_readName_52) d_Parish_readName_55 (by decide)) (og_sseq (og_iastore (N := 14) (og_f_Parish_names (og_aload_n (i := 0) (t := 12) (j := 0) (by rfl) (by rfl) d_Parish_readName_58) og_w151 d_Parish_readName_59) (by rfl) (og_iload_n (i := 2) (j := 2) (by rfl) (by rfl) d_Parish_readName_62) (og_f_Tokens_spelling_N (og_aload_n (i := 1) (t := 5) (j := 1) (by rfl) (by rfl) d_Parish_readName_63) og_w240 d_Parish_readName_64) d_Parish_readName_67) (og_callVv (og_acons (og_aload_n (i := 1) (t := 5) (j := 1) (by rfl) (by rfl) d_Parish_readName_68) (og_anil)) ok_Tokens_step (v_Tokens_step (by decide)) og_w534 d_Parish_readName_69))))) (fun _ => d_Parish_readName_72)
abbrev og_c_Tokens_isWord : ByteArray := prog_11_method_15_code
abbrev og_y_Tokens_isWord : MethodName := ⟨"OpenGraves$Tokens", "isWord", "(I)Z"⟩
theorem v_Tokens_isWord {own : String} {idx dep : Nat} (h : 1 + 1 ≤ dep) : og_sV own idx og_y_Tokens_isWord og_c_Tokens_isWord 2 3 1 dep 3 1 := ⟨⟨2, og_sl_Tokens, og_T_Tokens, 10, rfl, by decide, rfl⟩, og_w557, og_w558, og_w6, og_w559, ⟨by decide +kernel, by decide +kernel, by decide +kernel⟩, h, by decide⟩
theorem d_Tokens_isWord_0 : decode og_c_Tokens_isWord 0 = .ok (.aload_n 0, 1) := by decide +kernel
theorem d_Tokens_isWord_1 : decode og_c_Tokens_isWord 1 = .ok (.getfield 59, 3) := by decide +kernel
theorem d_Tokens_isWord_4 : decode og_c_Tokens_isWord 4 = .ok (.iconst 1, 1) := by decide +kernel
theorem d_Tokens_isWord_5 : decode og_c_Tokens_isWord 5 = .ok (.if_icmp .ne 15, 3) := by decide +kernel
theorem d_Tokens_isWord_8 : decode og_c_Tokens_isWord 8 = .ok (.aload_n 0, 1) := by decide +kernel
theorem d_Tokens_isWord_9 : decode og_c_Tokens_isWord 9 = .ok (.getfield 74, 3) := by decide +kernel
theorem d_Tokens_isWord_12 : decode og_c_Tokens_isWord 12 = .ok (.iload_n 1, 1) := by decide +kernel
theorem d_Tokens_isWord_13 : decode og_c_Tokens_isWord 13 = .ok (.if_icmp .ne 7, 3) := by decide +kernel
theorem d_Tokens_isWord_16 : decode og_c_Tokens_isWord 16 = .ok (.iconst 1, 1) := by decide +kernel
theorem d_Tokens_isWord_17 : decode og_c_Tokens_isWord 17 = .ok (.goto 4, 3) := by decide +kernel
theorem d_Tokens_isWord_20 : decode og_c_Tokens_isWord 20 = .ok (.iconst 0, 1) := by decide +kernel
theorem d_Tokens_isWord_21 : decode og_c_Tokens_isWord 21 = .ok (.ireturn, 1) := by decide +kernel
def m_Tokens_isWord : og_Dn := og_den [7, 0] 2 3 (og_retz (og_ec (og_and (og_cc og_req (og_get 2 (og_loc 0)) (og_k 1)) (og_cc og_req (og_get 5 (og_loc 0)) (og_loc 1)))))
set_option maxRecDepth 20000 in
theorem ok_Tokens_isWord : og_MOK og_y_Tokens_isWord og_c_Tokens_isWord 2 3 1 [7, 0] m_Tokens_isWord := og_method (b := 0) (lt' := []) (by decide +kernel) (by decide) (by decide) (og_sretz (og_econd (b := 0) (og_cand (og_ccn og_n_eq (og_ine (tgt := 20) (og_f_Tokens_kind (og_aload_n (i := 0) (t := 5) (j := 0) (by rfl) (by rfl) d_Tokens_isWord_0) og_w232 d_Tokens_isWord_1) (og_iconst (by decide) d_Tokens_isWord_4) d_Tokens_isWord_5 (by decide))) (og_ccn og_n_eq (og_ine (tgt := 20) (og_f_Tokens_value (og_aload_n (i := 0) (t := 5) (j := 0) (by rfl) (by rfl) d_Tokens_isWord_8) og_w237 d_Tokens_isWord_9) (og_iload_n (i := 1) (j := 1) (by rfl) (by rfl) d_Tokens_isWord_12) d_Tokens_isWord_13 (by decide)))) d_Tokens_isWord_16 d_Tokens_isWord_17 (by decide) d_Tokens_isWord_20 (by rfl)) d_Tokens_isWord_21) (fun h => by cases h)
abbrev og_c_Tokens_takeWord : ByteArray := prog_11_method_18_code
abbrev og_y_Tokens_takeWord : MethodName := ⟨"OpenGraves$Tokens", "takeWord", "(I)V"⟩
theorem v_Tokens_takeWord {own : String} {idx dep : Nat} (h : 4 + 1 ≤ dep) : og_sV own idx og_y_Tokens_takeWord og_c_Tokens_takeWord 2 2 4 dep 3 1 := ⟨⟨2, og_sl_Tokens, og_T_Tokens, 10, rfl, by decide, rfl⟩, og_w553, og_w554, og_w6, og_w555, ⟨by decide +kernel, by decide +kernel, by decide +kernel⟩, h, by decide⟩
theorem d_Tokens_takeWord_0 : decode og_c_Tokens_takeWord 0 = .ok (.aload_n 0, 1) := by decide +kernel
theorem d_Tokens_takeWord_1 : decode og_c_Tokens_takeWord 1 = .ok (.iload_n 1, 1) := by decide +kernel
theorem d_Tokens_takeWord_2 : decode og_c_Tokens_takeWord 2 = .ok (.invokevirtual 88, 3) := by decide +kernel
theorem d_Tokens_takeWord_5 : decode og_c_Tokens_takeWord 5 = .ok (.ifCond .eq 10, 3) := by decide +kernel
theorem d_Tokens_takeWord_8 : decode og_c_Tokens_takeWord 8 = .ok (.aload_n 0, 1) := by decide +kernel
theorem d_Tokens_takeWord_9 : decode og_c_Tokens_takeWord 9 = .ok (.invokevirtual 41, 3) := by decide +kernel
theorem d_Tokens_takeWord_12 : decode og_c_Tokens_takeWord 12 = .ok (.goto 8, 3) := by decide +kernel
theorem d_Tokens_takeWord_15 : decode og_c_Tokens_takeWord 15 = .ok (.aload_n 0, 1) := by decide +kernel
theorem d_Tokens_takeWord_16 : decode og_c_Tokens_takeWord 16 = .ok (.iconst 1, 1) := by decide +kernel
theorem d_Tokens_takeWord_17 : decode og_c_Tokens_takeWord 17 = .ok (.invokevirtual 91, 3) := by decide +kernel
theorem d_Tokens_takeWord_20 : decode og_c_Tokens_takeWord 20 = .ok (.return_, 1) := by decide +kernel
def m_Tokens_takeWord : og_Dn := og_den [7, 0] 2 2 (og_if (og_cb (og_call m_Tokens_isWord [og_loc 0, og_loc 1])) (og_exp (og_call m_Tokens_step [og_loc 0])) (og_exp (og_call m_Tokens_fail [og_loc 0, og_k 1])))
set_option maxRecDepth 20000 in
theorem ok_Tokens_takeWord : og_MOK og_y_Tokens_takeWord og_c_Tokens_takeWord 2 2 4 [7, 0] m_Tokens_takeWord := og_method (b := 20) (lt' := [(0, 7), (1, 0)]) (by decide +kernel) (by decide) (by decide) (og_sif (T := 8) (F := 15) (og_cbeq (tgt := 15) (og_callVz (og_acons (og_aload_n (i := 0) (t := 5) (j := 0) (by rfl) (by rfl) d_Tokens_takeWord_0) (og_acons (og_iload_n (i := 1) (j := 1) (by rfl) (by rfl) d_Tokens_takeWord_1) (og_anil))) (by decide) ok_Tokens_isWord (v_Tokens_isWord (by decide)) og_w556 d_Tokens_takeWord_2) d_Tokens_takeWord_5 (by decide)) (og_gS (b' := 20) (og_callVv (og_acons (og_aload_n (i := 0) (t := 5) (j := 0) (by rfl) (by rfl) d_Tokens_takeWord_8) (og_anil)) ok_Tokens_step (v_Tokens_step (by decide)) og_w477 d_Tokens_takeWord_9) d_Tokens_takeWord_12 (by decide)) (og_callVv (og_acons (og_aload_n (i := 0) (t := 5) (j := 0) (by rfl) (by rfl) d_Tokens_takeWord_15) (og_acons (og_iconst (by decide) d_Tokens_takeWord_16) (og_anil))) ok_Tokens_fail (v_Tokens_fail (by decide)) og_w560 d_Tokens_takeWord_17)) (fun _ => d_Tokens_takeWord_20)
abbrev og_c_Tokens_takeNumber : ByteArray := prog_11_method_20_code
abbrev og_y_Tokens_takeNumber : MethodName := ⟨"OpenGraves$Tokens", "takeNumber", "(II)I"⟩
theorem v_Tokens_takeNumber {own : String} {idx dep : Nat} (h : 4 + 1 ≤ dep) : og_sV own idx og_y_Tokens_takeNumber og_c_Tokens_takeNumber 4 0 4 dep 3 2 := ⟨⟨2, og_sl_Tokens, og_T_Tokens, 10, rfl, by decide, rfl⟩, og_w562, og_w563, og_w6, og_w564, ⟨by decide +kernel, by decide +kernel, by decide +kernel⟩, h, by decide⟩
theorem d_Tokens_takeNumber_0 : decode og_c_Tokens_takeNumber 0 = .ok (.aload_n 0, 1) := by decide +kernel
theorem d_Tokens_takeNumber_1 : decode og_c_Tokens_takeNumber 1 = .ok (.getfield 74, 3) := by decide +kernel
theorem d_Tokens_takeNumber_4 : decode og_c_Tokens_takeNumber 4 = .ok (.istore_n 3, 1) := by decide +kernel
theorem d_Tokens_takeNumber_5 : decode og_c_Tokens_takeNumber 5 = .ok (.aload_n 0, 1) := by decide +kernel
theorem d_Tokens_takeNumber_6 : decode og_c_Tokens_takeNumber 6 = .ok (.getfield 59, 3) := by decide +kernel
theorem d_Tokens_takeNumber_9 : decode og_c_Tokens_takeNumber 9 = .ok (.iconst 2, 1) := by decide +kernel
theorem d_Tokens_takeNumber_10 : decode og_c_Tokens_takeNumber 10 = .ok (.if_icmp .eq 11, 3) := by decide +kernel
theorem d_Tokens_takeNumber_13 : decode og_c_Tokens_takeNumber 13 = .ok (.aload_n 0, 1) := by decide +kernel
theorem d_Tokens_takeNumber_14 : decode og_c_Tokens_takeNumber 14 = .ok (.iconst 1, 1) := by decide +kernel
theorem d_Tokens_takeNumber_15 : decode og_c_Tokens_takeNumber 15 = .ok (.invokevirtual 91, 3) := by decide +kernel
theorem d_Tokens_takeNumber_18 : decode og_c_Tokens_takeNumber 18 = .ok (.goto 49, 3) := by decide +kernel
theorem d_Tokens_takeNumber_21 : decode og_c_Tokens_takeNumber 21 = .ok (.aload_n 0, 1) := by decide +kernel
theorem d_Tokens_takeNumber_22 : decode og_c_Tokens_takeNumber 22 = .ok (.getfield 80, 3) := by decide +kernel
theorem d_Tokens_takeNumber_25 : decode og_c_Tokens_takeNumber 25 = .ok (.iconst 4, 1) := by decide +kernel
theorem d_Tokens_takeNumber_26 : decode og_c_Tokens_takeNumber 26 = .ok (.if_icmp .le 17, 3) := by decide +kernel
theorem d_Tokens_takeNumber_29 : decode og_c_Tokens_takeNumber 29 = .ok (.aload_n 0, 1) := by decide +kernel
theorem d_Tokens_takeNumber_30 : decode og_c_Tokens_takeNumber 30 = .ok (.iconst 1, 1) := by decide +kernel
theorem d_Tokens_takeNumber_31 : decode og_c_Tokens_takeNumber 31 = .ok (.aload_n 0, 1) := by decide +kernel
theorem d_Tokens_takeNumber_32 : decode og_c_Tokens_takeNumber 32 = .ok (.getfield 56, 3) := by decide +kernel
theorem d_Tokens_takeNumber_35 : decode og_c_Tokens_takeNumber 35 = .ok (.iconst 4, 1) := by decide +kernel
theorem d_Tokens_takeNumber_36 : decode og_c_Tokens_takeNumber 36 = .ok (.iadd, 1) := by decide +kernel
theorem d_Tokens_takeNumber_37 : decode og_c_Tokens_takeNumber 37 = .ok (.invokevirtual 84, 3) := by decide +kernel
theorem d_Tokens_takeNumber_40 : decode og_c_Tokens_takeNumber 40 = .ok (.goto 27, 3) := by decide +kernel
theorem d_Tokens_takeNumber_43 : decode og_c_Tokens_takeNumber 43 = .ok (.iload_n 3, 1) := by decide +kernel
theorem d_Tokens_takeNumber_44 : decode og_c_Tokens_takeNumber 44 = .ok (.iload_n 1, 1) := by decide +kernel
theorem d_Tokens_takeNumber_45 : decode og_c_Tokens_takeNumber 45 = .ok (.if_icmp .lt 8, 3) := by decide +kernel
theorem d_Tokens_takeNumber_48 : decode og_c_Tokens_takeNumber 48 = .ok (.iload_n 3, 1) := by decide +kernel
theorem d_Tokens_takeNumber_49 : decode og_c_Tokens_takeNumber 49 = .ok (.iload_n 2, 1) := by decide +kernel
theorem d_Tokens_takeNumber_50 : decode og_c_Tokens_takeNumber 50 = .ok (.if_icmp .le 11, 3) := by decide +kernel
theorem d_Tokens_takeNumber_53 : decode og_c_Tokens_takeNumber 53 = .ok (.aload_n 0, 1) := by decide +kernel
theorem d_Tokens_takeNumber_54 : decode og_c_Tokens_takeNumber 54 = .ok (.iconst 2, 1) := by decide +kernel
theorem d_Tokens_takeNumber_55 : decode og_c_Tokens_takeNumber 55 = .ok (.invokevirtual 91, 3) := by decide +kernel
theorem d_Tokens_takeNumber_58 : decode og_c_Tokens_takeNumber 58 = .ok (.goto 9, 3) := by decide +kernel
theorem d_Tokens_takeNumber_61 : decode og_c_Tokens_takeNumber 61 = .ok (.aload_n 0, 1) := by decide +kernel
theorem d_Tokens_takeNumber_62 : decode og_c_Tokens_takeNumber 62 = .ok (.invokevirtual 41, 3) := by decide +kernel
theorem d_Tokens_takeNumber_65 : decode og_c_Tokens_takeNumber 65 = .ok (.iload_n 3, 1) := by decide +kernel
theorem d_Tokens_takeNumber_66 : decode og_c_Tokens_takeNumber 66 = .ok (.ireturn, 1) := by decide +kernel
theorem d_Tokens_takeNumber_67 : decode og_c_Tokens_takeNumber 67 = .ok (.iload_n 1, 1) := by decide +kernel
theorem d_Tokens_takeNumber_68 : decode og_c_Tokens_takeNumber 68 = .ok (.ireturn, 1) := by decide +kernel
def m_Tokens_takeNumber : og_Dn := og_den [7, 0, 0] 4 0 (og_seq (og_set 3 (og_get 5 (og_loc 0))) (og_cut (og_if (og_cc og_rne (og_get 2 (og_loc 0)) (og_k 2)) (og_exp (og_call m_Tokens_fail [og_loc 0, og_k 1])) (og_if (og_cc og_rgt (og_get 4 (og_loc 0)) (og_k 4)) (og_exp (og_call m_Tokens_failAt [og_loc 0, og_k 1, og_add (og_get 3 (og_loc 0)) (og_k 4)])) (og_if (og_or (og_cc og_rlt (og_loc 3) (og_loc 1)) (og_cc og_rgt (og_loc 3) (og_loc 2))) (og_exp (og_call m_Tokens_fail [og_loc 0, og_k 2])) (og_seq (og_exp (og_call m_Tokens_step [og_loc 0])) (og_ret (og_loc 3)))))) (og_ret (og_loc 1))))
set_option maxRecDepth 20000 in
theorem ok_Tokens_takeNumber : og_MOK og_y_Tokens_takeNumber og_c_Tokens_takeNumber 4 0 4 [7, 0, 0] m_Tokens_takeNumber := og_method (b := 0) (lt' := []) (by decide +kernel) (by decide) (by decide) (og_sseq (og_istore_n (i := 3) (lt' := [(0, 7), (1, 0), (2, 0), (3, 0)]) (og_f_Tokens_value (og_aload_n (i := 0) (t := 5) (j := 0) (by rfl) (by rfl) d_Tokens_takeNumber_0) og_w237 d_Tokens_takeNumber_1) (by rfl) (by decide) (by decide) d_Tokens_takeNumber_4) (og_scut (og_sif (T := 13) (F := 21) (og_ccn og_n_ne (og_ieq (tgt := 21) (og_f_Tokens_kind (og_aload_n (i := 0) (t := 5) (j := 0) (by rfl) (by rfl) d_Tokens_takeNumber_5) og_w232 d_Tokens_takeNumber_6) (og_iconst (by decide) d_Tokens_takeNumber_9) d_Tokens_takeNumber_10 (by decide))) (og_gS (b' := 67) (og_callVv (og_acons (og_aload_n (i := 0) (t := 5) (j := 0) (by rfl) (by rfl) d_Tokens_takeNumber_13) (og_acons (og_iconst (by decide) d_Tokens_takeNumber_14) (og_anil))) ok_Tokens_fail (v_Tokens_fail (by decide)) og_w560 d_Tokens_takeNumber_15) d_Tokens_takeNumber_18 (by decide)) (og_sif (T := 29) (F := 43) (og_ccn og_n_gt (og_ile (tgt := 43) (og_f_Tokens_size (og_aload_n (i := 0) (t := 5) (j := 0) (by rfl) (by rfl) d_Tokens_takeNumber_21) og_w235 d_Tokens_takeNumber_22) (og_iconst (by decide) d_Tokens_takeNumber_25) d_Tokens_takeNumber_26 (by decide))) (og_gS (b' := 67) (og_callVv (og_acons (og_aload_n (i := 0) (t := 5) (j := 0) (by rfl) (by rfl) d_Tokens_takeNumber_29) (og_acons (og_iconst (by decide) d_Tokens_takeNumber_30) (og_acons (og_iadd (og_f_Tokens_start (og_aload_n (i := 0) (t := 5) (j := 0) (by rfl) (by rfl) d_Tokens_takeNumber_31) og_w233 d_Tokens_takeNumber_32) (og_iconst (by decide) d_Tokens_takeNumber_35) d_Tokens_takeNumber_36) (og_anil)))) ok_Tokens_failAt (v_Tokens_failAt (by decide)) og_w522 d_Tokens_takeNumber_37) d_Tokens_takeNumber_40 (by decide)) (og_sif (T := 53) (F := 61) (og_cor (og_ilt (tgt := 53) (og_iload_n (i := 3) (j := 3) (by rfl) (by rfl) d_Tokens_takeNumber_43) (og_iload_n (i := 1) (j := 1) (by rfl) (by rfl) d_Tokens_takeNumber_44) d_Tokens_takeNumber_45 (by decide)) (og_ccn og_n_gt (og_ile (tgt := 61) (og_iload_n (i := 3) (j := 3) (by rfl) (by rfl) d_Tokens_takeNumber_48) (og_iload_n (i := 2) (j := 2) (by rfl) (by rfl) d_Tokens_takeNumber_49) d_Tokens_takeNumber_50 (by decide)))) (og_gS (b' := 67) (og_callVv (og_acons (og_aload_n (i := 0) (t := 5) (j := 0) (by rfl) (by rfl) d_Tokens_takeNumber_53) (og_acons (og_iconst (by decide) d_Tokens_takeNumber_54) (og_anil))) ok_Tokens_fail (v_Tokens_fail (by decide)) og_w560 d_Tokens_takeNumber_55) d_Tokens_takeNumber_58 (by decide)) (og_sseq (og_callVv (og_acons (og_aload_n (i := 0) (t := 5) (j := 0) (by rfl) (by rfl) d_Tokens_takeNumber_61) (og_anil)) ok_Tokens_step (v_Tokens_step (by decide)) og_w477 d_Tokens_takeNumber_62) (og_sreti (og_iload_n (i := 3) (j := 3) (by rfl) (by rfl) d_Tokens_takeNumber_65) d_Tokens_takeNumber_66))))) (og_sreti (og_iload_n (i := 1) (j := 1) (by rfl) (by rfl) d_Tokens_takeNumber_67) d_Tokens_takeNumber_68))) (fun h => by cases h)
abbrev og_c_Parish_readGrave : ByteArray := prog_5_method_6_code
abbrev og_y_Parish_readGrave : MethodName := ⟨"OpenGraves$Parish", "readGrave", "(LOpenGraves$Tokens;I)V"⟩
theorem v_Parish_readGrave {own : String} {idx dep : Nat} (h : 5 + 1 ≤ dep) : og_sV own idx og_y_Parish_readGrave og_c_Parish_readGrave 3 2 5 dep 10 2 := ⟨⟨9, og_sl_Parish, og_T_Parish, 3, rfl, by decide, rfl⟩, og_w537, (og_memP (⟨"OpenGraves$Parish", "readGrave", "(LOpenGraves$Tokens;I)V"⟩, 3) (List.mem_of_getElem? (i := 6) (by decide +kernel))), og_w2, og_w538, ⟨by decide +kernel, by decide +kernel, by decide +kernel⟩, h, by decide⟩
theorem d_Parish_readGrave_0 : decode og_c_Parish_readGrave 0 = .ok (.aload_n 0, 1) := by decide +kernel
theorem d_Parish_readGrave_1 : decode og_c_Parish_readGrave 1 = .ok (.aload_n 1, 1) := by decide +kernel
theorem d_Parish_readGrave_2 : decode og_c_Parish_readGrave 2 = .ok (.iload_n 2, 1) := by decide +kernel
theorem d_Parish_readGrave_3 : decode og_c_Parish_readGrave 3 = .ok (.invokevirtual 93, 3) := by decide +kernel
theorem d_Parish_readGrave_6 : decode og_c_Parish_readGrave 6 = .ok (.aload_n 1, 1) := by decide +kernel
theorem d_Parish_readGrave_7 : decode og_c_Parish_readGrave 7 = .ok (.iconst 1, 1) := by decide +kernel
theorem d_Parish_readGrave_8 : decode og_c_Parish_readGrave 8 = .ok (.invokevirtual 96, 3) := by decide +kernel
theorem d_Parish_readGrave_11 : decode og_c_Parish_readGrave 11 = .ok (.aload_n 0, 1) := by decide +kernel
theorem d_Parish_readGrave_12 : decode og_c_Parish_readGrave 12 = .ok (.getfield 12, 3) := by decide +kernel
theorem d_Parish_readGrave_15 : decode og_c_Parish_readGrave 15 = .ok (.getfield 99, 3) := by decide +kernel
theorem d_Parish_readGrave_18 : decode og_c_Parish_readGrave 18 = .ok (.iload_n 2, 1) := by decide +kernel
theorem d_Parish_readGrave_19 : decode og_c_Parish_readGrave 19 = .ok (.aload_n 1, 1) := by decide +kernel
theorem d_Parish_readGrave_20 : decode og_c_Parish_readGrave 20 = .ok (.iconst 1, 1) := by decide +kernel
theorem d_Parish_readGrave_21 : decode og_c_Parish_readGrave 21 = .ok (.bipush 9, 2) := by decide +kernel
theorem d_Parish_readGrave_23 : decode og_c_Parish_readGrave 23 = .ok (.invokevirtual 102, 3) := by decide +kernel
theorem d_Parish_readGrave_26 : decode og_c_Parish_readGrave 26 = .ok (.iastore, 1) := by decide +kernel
theorem d_Parish_readGrave_27 : decode og_c_Parish_readGrave 27 = .ok (.aload_n 1, 1) := by decide +kernel
theorem d_Parish_readGrave_28 : decode og_c_Parish_readGrave 28 = .ok (.iconst 2, 1) := by decide +kernel
theorem d_Parish_readGrave_29 : decode og_c_Parish_readGrave 29 = .ok (.invokevirtual 96, 3) := by decide +kernel
theorem d_Parish_readGrave_32 : decode og_c_Parish_readGrave 32 = .ok (.aload_n 0, 1) := by decide +kernel
theorem d_Parish_readGrave_33 : decode og_c_Parish_readGrave 33 = .ok (.getfield 12, 3) := by decide +kernel
theorem d_Parish_readGrave_36 : decode og_c_Parish_readGrave 36 = .ok (.getfield 106, 3) := by decide +kernel
theorem d_Parish_readGrave_39 : decode og_c_Parish_readGrave 39 = .ok (.iload_n 2, 1) := by decide +kernel
theorem d_Parish_readGrave_40 : decode og_c_Parish_readGrave 40 = .ok (.aload_n 1, 1) := by decide +kernel
theorem d_Parish_readGrave_41 : decode og_c_Parish_readGrave 41 = .ok (.iconst 0, 1) := by decide +kernel
theorem d_Parish_readGrave_42 : decode og_c_Parish_readGrave 42 = .ok (.bipush 9, 2) := by decide +kernel
theorem d_Parish_readGrave_44 : decode og_c_Parish_readGrave 44 = .ok (.invokevirtual 102, 3) := by decide +kernel
theorem d_Parish_readGrave_47 : decode og_c_Parish_readGrave 47 = .ok (.iastore, 1) := by decide +kernel
theorem d_Parish_readGrave_48 : decode og_c_Parish_readGrave 48 = .ok (.aload_n 1, 1) := by decide +kernel
theorem d_Parish_readGrave_49 : decode og_c_Parish_readGrave 49 = .ok (.iconst 3, 1) := by decide +kernel
theorem d_Parish_readGrave_50 : decode og_c_Parish_readGrave 50 = .ok (.invokevirtual 96, 3) := by decide +kernel
theorem d_Parish_readGrave_53 : decode og_c_Parish_readGrave 53 = .ok (.aload_n 0, 1) := by decide +kernel
theorem d_Parish_readGrave_54 : decode og_c_Parish_readGrave 54 = .ok (.getfield 12, 3) := by decide +kernel
theorem d_Parish_readGrave_57 : decode og_c_Parish_readGrave 57 = .ok (.getfield 109, 3) := by decide +kernel
theorem d_Parish_readGrave_60 : decode og_c_Parish_readGrave 60 = .ok (.iload_n 2, 1) := by decide +kernel
theorem d_Parish_readGrave_61 : decode og_c_Parish_readGrave 61 = .ok (.aload_n 1, 1) := by decide +kernel
theorem d_Parish_readGrave_62 : decode og_c_Parish_readGrave 62 = .ok (.iconst 1, 1) := by decide +kernel
theorem d_Parish_readGrave_63 : decode og_c_Parish_readGrave 63 = .ok (.bipush 30, 2) := by decide +kernel
theorem d_Parish_readGrave_65 : decode og_c_Parish_readGrave 65 = .ok (.invokevirtual 102, 3) := by decide +kernel
theorem d_Parish_readGrave_68 : decode og_c_Parish_readGrave 68 = .ok (.iastore, 1) := by decide +kernel
theorem d_Parish_readGrave_69 : decode og_c_Parish_readGrave 69 = .ok (.aload_n 0, 1) := by decide +kernel
theorem d_Parish_readGrave_70 : decode og_c_Parish_readGrave 70 = .ok (.getfield 12, 3) := by decide +kernel
theorem d_Parish_readGrave_73 : decode og_c_Parish_readGrave 73 = .ok (.getfield 112, 3) := by decide +kernel
theorem d_Parish_readGrave_76 : decode og_c_Parish_readGrave 76 = .ok (.iload_n 2, 1) := by decide +kernel
theorem d_Parish_readGrave_77 : decode og_c_Parish_readGrave 77 = .ok (.iconst (-1), 1) := by decide +kernel
theorem d_Parish_readGrave_78 : decode og_c_Parish_readGrave 78 = .ok (.iastore, 1) := by decide +kernel
theorem d_Parish_readGrave_79 : decode og_c_Parish_readGrave 79 = .ok (.aload_n 0, 1) := by decide +kernel
theorem d_Parish_readGrave_80 : decode og_c_Parish_readGrave 80 = .ok (.getfield 12, 3) := by decide +kernel
theorem d_Parish_readGrave_83 : decode og_c_Parish_readGrave 83 = .ok (.dup, 1) := by decide +kernel
theorem d_Parish_readGrave_84 : decode og_c_Parish_readGrave 84 = .ok (.getfield 71, 3) := by decide +kernel
theorem d_Parish_readGrave_87 : decode og_c_Parish_readGrave 87 = .ok (.iconst 1, 1) := by decide +kernel
theorem d_Parish_readGrave_88 : decode og_c_Parish_readGrave 88 = .ok (.iadd, 1) := by decide +kernel
theorem d_Parish_readGrave_89 : decode og_c_Parish_readGrave 89 = .ok (.putfield 71, 3) := by decide +kernel
theorem d_Parish_readGrave_92 : decode og_c_Parish_readGrave 92 = .ok (.return_, 1) := by decide +kernel
def m_Parish_readGrave : og_Dn := og_den [14, 7, 0] 3 2 (og_seq (og_exp (og_call m_Parish_readName [og_loc 0, og_loc 1, og_loc 2])) (og_seq (og_exp (og_call m_Tokens_takeWord [og_loc 1, og_k 1])) (og_seq (og_ast 6 (og_fix (fun i => i + 1) (og_fix (fun i => i + 90) (og_loc 0))) (og_loc 2) (og_call m_Tokens_takeNumber [og_loc 1, og_k 1, og_k 9])) (og_seq (og_exp (og_call m_Tokens_takeWord [og_loc 1, og_k 2])) (og_seq (og_ast 6 (og_fix (fun i => i + 2) (og_fix (fun i => i + 90) (og_loc 0))) (og_loc 2) (og_call m_Tokens_takeNumber [og_loc 1, og_k 0, og_k 9])) (og_seq (og_exp (og_call m_Tokens_takeWord [og_loc 1, og_k 3])) (og_seq (og_ast 6 (og_fix (fun i => i + 3) (og_fix (fun i => i + 90) (og_loc 0))) (og_loc 2) (og_call m_Tokens_takeNumber [og_loc 1, og_k 1, og_k 30])) (og_seq (og_ast 6 (og_fix (fun i => i + 4) (og_fix (fun i => i + 90) (og_loc 0))) (og_loc 2) (og_k (-1))) (og_pop32 og_padd 0 (og_fix (fun i => i + 90) (og_loc 0)) (og_k 1))))))))))
set_option maxRecDepth 20000 in
theorem ok_Parish_readGrave : og_MOK og_y_Parish_readGrave og_c_Parish_readGrave 3 2 5 [14, 7, 0] m_Parish_readGrave := og_method (b := 92) (lt' := [(0, 14), (1, 7), (2, 0)]) (by decide +kernel) (by decide) (by decide) (og_sseq (og_callVv (og_acons (og_aload_n (i := 0) (t := 12) (j := 0) (by rfl) (by rfl) d_Parish_readGrave_0) (og_acons (og_aload_n (i := 1) (t := 5) (j := 1) (by rfl) (by rfl) d_Parish_readGrave_1) (og_acons (og_iload_n (i := 2) (j := 2) (by rfl) (by rfl) d_Parish_readGrave_2) (og_anil)))) ok_Parish_readName (v_Parish_readName (by decide)) og_w539 d_Parish_readGrave_3) (og_sseq (og_callVv (og_acons (og_aload_n (i := 1) (t := 5) (j := 1) (by rfl) (by rfl) d_Parish_readGrave_6) (og_acons (og_iconst (by decide) d_Parish_readGrave_7) (og_anil))) ok_Tokens_takeWord (v_Tokens_takeWord (by decide)) og_w552 d_Parish_readGrave_8) (og_sseq (og_iastore (N := 6) (og_f_Yard_length_N (og_f_Parish_beginning (og_aload_n (i := 0) (t := 12) (j := 0) (by rfl) (by rfl) d_Parish_readGrave_11) og_w147 d_Parish_readGrave_12) og_w63 d_Parish_readGrave_15) (by rfl) (og_iload_n (i := 2) (j := 2) (by rfl) (by rfl) d_Parish_readGrave_18) (og_callVi (og_acons (og_aload_n (i := 1) (t := 5) (j := 1) (by rfl) (by rfl) d_Parish_readGrave_19) (og_acons (og_iconst (by decide) d_Parish_readGrave_20) (og_acons (og_bipush (by decide) d_Parish_readGrave_21) (og_anil)))) (by decide) ok_Tokens_takeNumber (v_Tokens_takeNumber (by decide)) og_w561 d_Parish_readGrave_23) d_Parish_readGrave_26) (og_sseq (og_callVv (og_acons (og_aload_n (i := 1) (t := 5) (j := 1) (by rfl) (by rfl) d_Parish_readGrave_27) (og_acons (og_iconst (by decide) d_Parish_readGrave_28) (og_anil))) ok_Tokens_takeWord (v_Tokens_takeWord (by decide)) og_w552 d_Parish_readGrave_29) (og_sseq (og_iastore (N := 6) (og_f_Yard_deep_N (og_f_Parish_beginning (og_aload_n (i := 0) (t := 12) (j := 0) (by rfl) (by rfl) d_Parish_readGrave_32) og_w147 d_Parish_readGrave_33) og_w66 d_Parish_readGrave_36) (by rfl) (og_iload_n (i := 2) (j := 2) (by rfl) (by rfl) d_Parish_readGrave_39) (og_callVi (og_acons (og_aload_n (i := 1) (t := 5) (j := 1) (by rfl) (by rfl) d_Parish_readGrave_40) (og_acons (og_iconst (by decide) d_Parish_readGrave_41) (og_acons (og_bipush (by decide) d_Parish_readGrave_42) (og_anil)))) (by decide) ok_Tokens_takeNumber (v_Tokens_takeNumber (by decide)) og_w561 d_Parish_readGrave_44) d_Parish_readGrave_47) (og_sseq (og_callVv (og_acons (og_aload_n (i := 1) (t := 5) (j := 1) (by rfl) (by rfl) d_Parish_readGrave_48) (og_acons (og_iconst (by decide) d_Parish_readGrave_49) (og_anil))) ok_Tokens_takeWord (v_Tokens_takeWord (by decide)) og_w552 d_Parish_readGrave_50) (og_sseq (og_iastore (N := 6) (og_f_Yard_due_N (og_f_Parish_beginning (og_aload_n (i := 0) (t := 12) (j := 0) (by rfl) (by rfl) d_Parish_readGrave_53) og_w147 d_Parish_readGrave_54) og_w72 d_Parish_readGrave_57) (by rfl) (og_iload_n (i := 2) (j := 2) (by rfl) (by rfl) d_Parish_readGrave_60) (og_callVi (og_acons (og_aload_n (i := 1) (t := 5) (j := 1) (by rfl) (by rfl) d_Parish_readGrave_61) (og_acons (og_iconst (by decide) d_Parish_readGrave_62) (og_acons (og_bipush (by decide) d_Parish_readGrave_63) (og_anil)))) (by decide) ok_Tokens_takeNumber (v_Tokens_takeNumber (by decide)) og_w561 d_Parish_readGrave_65) d_Parish_readGrave_68) (og_sseq (og_iastore (N := 6) (og_f_Yard_who_N (og_f_Parish_beginning (og_aload_n (i := 0) (t := 12) (j := 0) (by rfl) (by rfl) d_Parish_readGrave_69) og_w147 d_Parish_readGrave_70) og_w75 d_Parish_readGrave_73) (by rfl) (og_iload_n (i := 2) (j := 2) (by rfl) (by rfl) d_Parish_readGrave_76) (og_iconst (by decide) d_Parish_readGrave_77) d_Parish_readGrave_78) (og_qadd_Yard_graves_N (og_f_Parish_beginning (og_aload_n (i := 0) (t := 12) (j := 0) (by rfl) (by rfl) d_Parish_readGrave_79) og_w147 d_Parish_readGrave_80) d_Parish_readGrave_83 d_Parish_readGrave_84 (og_iconst (by decide) d_Parish_readGrave_87) d_Parish_readGrave_88 og_w44 d_Parish_readGrave_89))))))))) (fun _ => d_Parish_readGrave_92)
abbrev og_c_Parish_readPerson : ByteArray := prog_5_method_7_code
abbrev og_y_Parish_readPerson : MethodName := ⟨"OpenGraves$Parish", "readPerson", "(LOpenGraves$Tokens;I)V"⟩
theorem v_Parish_readPerson {own : String} {idx dep : Nat} (h : 5 + 1 ≤ dep) : og_sV own idx og_y_Parish_readPerson og_c_Parish_readPerson 3 2 5 dep 10 2 := ⟨⟨9, og_sl_Parish, og_T_Parish, 3, rfl, by decide, rfl⟩, og_w567, (og_memP (⟨"OpenGraves$Parish", "readPerson", "(LOpenGraves$Tokens;I)V"⟩, 3) (List.mem_of_getElem? (i := 9) (by decide +kernel))), og_w2, og_w568, ⟨by decide +kernel, by decide +kernel, by decide +kernel⟩, h, by decide⟩
theorem d_Parish_readPerson_0 : decode og_c_Parish_readPerson 0 = .ok (.aload_n 0, 1) := by decide +kernel
theorem d_Parish_readPerson_1 : decode og_c_Parish_readPerson 1 = .ok (.aload_n 1, 1) := by decide +kernel
theorem d_Parish_readPerson_2 : decode og_c_Parish_readPerson 2 = .ok (.bipush 6, 2) := by decide +kernel
theorem d_Parish_readPerson_4 : decode og_c_Parish_readPerson 4 = .ok (.iload_n 2, 1) := by decide +kernel
theorem d_Parish_readPerson_5 : decode og_c_Parish_readPerson 5 = .ok (.iadd, 1) := by decide +kernel
theorem d_Parish_readPerson_6 : decode og_c_Parish_readPerson 6 = .ok (.invokevirtual 93, 3) := by decide +kernel
theorem d_Parish_readPerson_9 : decode og_c_Parish_readPerson 9 = .ok (.aload_n 1, 1) := by decide +kernel
theorem d_Parish_readPerson_10 : decode og_c_Parish_readPerson 10 = .ok (.iconst 5, 1) := by decide +kernel
theorem d_Parish_readPerson_11 : decode og_c_Parish_readPerson 11 = .ok (.invokevirtual 96, 3) := by decide +kernel
theorem d_Parish_readPerson_14 : decode og_c_Parish_readPerson 14 = .ok (.aload_n 0, 1) := by decide +kernel
theorem d_Parish_readPerson_15 : decode og_c_Parish_readPerson 15 = .ok (.getfield 12, 3) := by decide +kernel
theorem d_Parish_readPerson_18 : decode og_c_Parish_readPerson 18 = .ok (.getfield 115, 3) := by decide +kernel
theorem d_Parish_readPerson_21 : decode og_c_Parish_readPerson 21 = .ok (.iload_n 2, 1) := by decide +kernel
theorem d_Parish_readPerson_22 : decode og_c_Parish_readPerson 22 = .ok (.aload_n 1, 1) := by decide +kernel
theorem d_Parish_readPerson_23 : decode og_c_Parish_readPerson 23 = .ok (.iconst 1, 1) := by decide +kernel
theorem d_Parish_readPerson_24 : decode og_c_Parish_readPerson 24 = .ok (.bipush 9, 2) := by decide +kernel
theorem d_Parish_readPerson_26 : decode og_c_Parish_readPerson 26 = .ok (.invokevirtual 102, 3) := by decide +kernel
theorem d_Parish_readPerson_29 : decode og_c_Parish_readPerson 29 = .ok (.iastore, 1) := by decide +kernel
theorem d_Parish_readPerson_30 : decode og_c_Parish_readPerson 30 = .ok (.aload_n 1, 1) := by decide +kernel
theorem d_Parish_readPerson_31 : decode og_c_Parish_readPerson 31 = .ok (.bipush 6, 2) := by decide +kernel
theorem d_Parish_readPerson_33 : decode og_c_Parish_readPerson 33 = .ok (.invokevirtual 96, 3) := by decide +kernel
theorem d_Parish_readPerson_36 : decode og_c_Parish_readPerson 36 = .ok (.aload_n 0, 1) := by decide +kernel
theorem d_Parish_readPerson_37 : decode og_c_Parish_readPerson 37 = .ok (.getfield 12, 3) := by decide +kernel
theorem d_Parish_readPerson_40 : decode og_c_Parish_readPerson 40 = .ok (.getfield 118, 3) := by decide +kernel
theorem d_Parish_readPerson_43 : decode og_c_Parish_readPerson 43 = .ok (.iload_n 2, 1) := by decide +kernel
theorem d_Parish_readPerson_44 : decode og_c_Parish_readPerson 44 = .ok (.aload_n 1, 1) := by decide +kernel
theorem d_Parish_readPerson_45 : decode og_c_Parish_readPerson 45 = .ok (.iconst 0, 1) := by decide +kernel
theorem d_Parish_readPerson_46 : decode og_c_Parish_readPerson 46 = .ok (.bipush 99, 2) := by decide +kernel
theorem d_Parish_readPerson_48 : decode og_c_Parish_readPerson 48 = .ok (.invokevirtual 102, 3) := by decide +kernel
theorem d_Parish_readPerson_51 : decode og_c_Parish_readPerson 51 = .ok (.iastore, 1) := by decide +kernel
theorem d_Parish_readPerson_52 : decode og_c_Parish_readPerson 52 = .ok (.aload_n 1, 1) := by decide +kernel
theorem d_Parish_readPerson_53 : decode og_c_Parish_readPerson 53 = .ok (.bipush 7, 2) := by decide +kernel
theorem d_Parish_readPerson_55 : decode og_c_Parish_readPerson 55 = .ok (.invokevirtual 96, 3) := by decide +kernel
theorem d_Parish_readPerson_58 : decode og_c_Parish_readPerson 58 = .ok (.aload_n 0, 1) := by decide +kernel
theorem d_Parish_readPerson_59 : decode og_c_Parish_readPerson 59 = .ok (.getfield 12, 3) := by decide +kernel
theorem d_Parish_readPerson_62 : decode og_c_Parish_readPerson 62 = .ok (.getfield 121, 3) := by decide +kernel
theorem d_Parish_readPerson_65 : decode og_c_Parish_readPerson 65 = .ok (.iload_n 2, 1) := by decide +kernel
theorem d_Parish_readPerson_66 : decode og_c_Parish_readPerson 66 = .ok (.aload_n 1, 1) := by decide +kernel
theorem d_Parish_readPerson_67 : decode og_c_Parish_readPerson 67 = .ok (.iconst 0, 1) := by decide +kernel
theorem d_Parish_readPerson_68 : decode og_c_Parish_readPerson 68 = .ok (.bipush 9, 2) := by decide +kernel
theorem d_Parish_readPerson_70 : decode og_c_Parish_readPerson 70 = .ok (.invokevirtual 102, 3) := by decide +kernel
theorem d_Parish_readPerson_73 : decode og_c_Parish_readPerson 73 = .ok (.iastore, 1) := by decide +kernel
theorem d_Parish_readPerson_74 : decode og_c_Parish_readPerson 74 = .ok (.aload_n 0, 1) := by decide +kernel
theorem d_Parish_readPerson_75 : decode og_c_Parish_readPerson 75 = .ok (.getfield 12, 3) := by decide +kernel
theorem d_Parish_readPerson_78 : decode og_c_Parish_readPerson 78 = .ok (.getfield 124, 3) := by decide +kernel
theorem d_Parish_readPerson_81 : decode og_c_Parish_readPerson 81 = .ok (.iload_n 2, 1) := by decide +kernel
theorem d_Parish_readPerson_82 : decode og_c_Parish_readPerson 82 = .ok (.iconst 1, 1) := by decide +kernel
theorem d_Parish_readPerson_83 : decode og_c_Parish_readPerson 83 = .ok (.iastore, 1) := by decide +kernel
theorem d_Parish_readPerson_84 : decode og_c_Parish_readPerson 84 = .ok (.aload_n 0, 1) := by decide +kernel
theorem d_Parish_readPerson_85 : decode og_c_Parish_readPerson 85 = .ok (.getfield 12, 3) := by decide +kernel
theorem d_Parish_readPerson_88 : decode og_c_Parish_readPerson 88 = .ok (.dup, 1) := by decide +kernel
theorem d_Parish_readPerson_89 : decode og_c_Parish_readPerson 89 = .ok (.getfield 78, 3) := by decide +kernel
theorem d_Parish_readPerson_92 : decode og_c_Parish_readPerson 92 = .ok (.iconst 1, 1) := by decide +kernel
theorem d_Parish_readPerson_93 : decode og_c_Parish_readPerson 93 = .ok (.iadd, 1) := by decide +kernel
theorem d_Parish_readPerson_94 : decode og_c_Parish_readPerson 94 = .ok (.putfield 78, 3) := by decide +kernel
theorem d_Parish_readPerson_97 : decode og_c_Parish_readPerson 97 = .ok (.return_, 1) := by decide +kernel
def m_Parish_readPerson : og_Dn := og_den [14, 7, 0] 3 2 (og_seq (og_exp (og_call m_Parish_readName [og_loc 0, og_loc 1, og_add (og_k 6) (og_loc 2)])) (og_seq (og_exp (og_call m_Tokens_takeWord [og_loc 1, og_k 5])) (og_seq (og_ast 8 (og_fix (fun i => i + 5) (og_fix (fun i => i + 90) (og_loc 0))) (og_loc 2) (og_call m_Tokens_takeNumber [og_loc 1, og_k 1, og_k 9])) (og_seq (og_exp (og_call m_Tokens_takeWord [og_loc 1, og_k 6])) (og_seq (og_ast 8 (og_fix (fun i => i + 6) (og_fix (fun i => i + 90) (og_loc 0))) (og_loc 2) (og_call m_Tokens_takeNumber [og_loc 1, og_k 0, og_k 99])) (og_seq (og_exp (og_call m_Tokens_takeWord [og_loc 1, og_k 7])) (og_seq (og_ast 8 (og_fix (fun i => i + 7) (og_fix (fun i => i + 90) (og_loc 0))) (og_loc 2) (og_call m_Tokens_takeNumber [og_loc 1, og_k 0, og_k 9])) (og_seq (og_ast 8 (og_fix (fun i => i + 8) (og_fix (fun i => i + 90) (og_loc 0))) (og_loc 2) (og_k 1)) (og_pop32 og_padd 1 (og_fix (fun i => i + 90) (og_loc 0)) (og_k 1))))))))))
set_option maxRecDepth 20000 in
theorem ok_Parish_readPerson : og_MOK og_y_Parish_readPerson og_c_Parish_readPerson 3 2 5 [14, 7, 0] m_Parish_readPerson := og_method (b := 97) (lt' := [(0, 14), (1, 7), (2, 0)]) (by decide +kernel) (by decide) (by decide) (og_sseq (og_callVv (og_acons (og_aload_n (i := 0) (t := 12) (j := 0) (by rfl) (by rfl) d_Parish_readPerson_0) (og_acons (og_aload_n (i := 1) (t := 5) (j := 1) (by rfl) (by rfl) d_Parish_readPerson_1) (og_acons (og_iadd (og_bipush (by decide) d_Parish_readPerson_2) (og_iload_n (i := 2) (j := 2) (by rfl) (by rfl) d_Parish_readPerson_4) d_Parish_readPerson_5) (og_anil)))) ok_Parish_readName (v_Parish_readName (by decide)) og_w539 d_Parish_readPerson_6) (og_sseq (og_callVv (og_acons (og_aload_n (i := 1) (t := 5) (j := 1) (by rfl) (by rfl) d_Parish_readPerson_9) (og_acons (og_iconst (by decide) d_Parish_readPerson_10) (og_anil))) ok_Tokens_takeWord (v_Tokens_takeWord (by decide)) og_w552 d_Parish_readPerson_11) (og_sseq (og_iastore (N := 8) (og_f_Yard_tall_N (og_f_Parish_beginning (og_aload_n (i := 0) (t := 12) (j := 0) (by rfl) (by rfl) d_Parish_readPerson_14) og_w147 d_Parish_readPerson_15) og_w79 d_Parish_readPerson_18) (by rfl) (og_iload_n (i := 2) (j := 2) (by rfl) (by rfl) d_Parish_readPerson_21) (og_callVi (og_acons (og_aload_n (i := 1) (t := 5) (j := 1) (by rfl) (by rfl) d_Parish_readPerson_22) (og_acons (og_iconst (by decide) d_Parish_readPerson_23) (og_acons (og_bipush (by decide) d_Parish_readPerson_24) (og_anil)))) (by decide) ok_Tokens_takeNumber (v_Tokens_takeNumber (by decide)) og_w561 d_Parish_readPerson_26) d_Parish_readPerson_29) (og_sseq (og_callVv (og_acons (og_aload_n (i := 1) (t := 5) (j := 1) (by rfl) (by rfl) d_Parish_readPerson_30) (og_acons (og_bipush (by decide) d_Parish_readPerson_31) (og_anil))) ok_Tokens_takeWord (v_Tokens_takeWord (by decide)) og_w552 d_Parish_readPerson_33) (og_sseq (og_iastore (N := 8) (og_f_Yard_age_N (og_f_Parish_beginning (og_aload_n (i := 0) (t := 12) (j := 0) (by rfl) (by rfl) d_Parish_readPerson_36) og_w147 d_Parish_readPerson_37) og_w83 d_Parish_readPerson_40) (by rfl) (og_iload_n (i := 2) (j := 2) (by rfl) (by rfl) d_Parish_readPerson_43) (og_callVi (og_acons (og_aload_n (i := 1) (t := 5) (j := 1) (by rfl) (by rfl) d_Parish_readPerson_44) (og_acons (og_iconst (by decide) d_Parish_readPerson_45) (og_acons (og_bipush (by decide) d_Parish_readPerson_46) (og_anil)))) (by decide) ok_Tokens_takeNumber (v_Tokens_takeNumber (by decide)) og_w561 d_Parish_readPerson_48) d_Parish_readPerson_51) (og_sseq (og_callVv (og_acons (og_aload_n (i := 1) (t := 5) (j := 1) (by rfl) (by rfl) d_Parish_readPerson_52) (og_acons (og_bipush (by decide) d_Parish_readPerson_53) (og_anil))) ok_Tokens_takeWord (v_Tokens_takeWord (by decide)) og_w552 d_Parish_readPerson_55) (og_sseq (og_iastore (N := 8) (og_f_Yard_will_N (og_f_Parish_beginning (og_aload_n (i := 0) (t := 12) (j := 0) (by rfl) (by rfl) d_Parish_readPerson_58) og_w147 d_Parish_readPerson_59) og_w89 d_Parish_readPerson_62) (by rfl) (og_iload_n (i := 2) (j := 2) (by rfl) (by rfl) d_Parish_readPerson_65) (og_callVi (og_acons (og_aload_n (i := 1) (t := 5) (j := 1) (by rfl) (by rfl) d_Parish_readPerson_66) (og_acons (og_iconst (by decide) d_Parish_readPerson_67) (og_acons (og_bipush (by decide) d_Parish_readPerson_68) (og_anil)))) (by decide) ok_Tokens_takeNumber (v_Tokens_takeNumber (by decide)) og_w561 d_Parish_readPerson_70) d_Parish_readPerson_73) (og_sseq (og_iastore (N := 8) (og_f_Yard_alive_N (og_f_Parish_beginning (og_aload_n (i := 0) (t := 12) (j := 0) (by rfl) (by rfl) d_Parish_readPerson_74) og_w147 d_Parish_readPerson_75) og_w94 d_Parish_readPerson_78) (by rfl) (og_iload_n (i := 2) (j := 2) (by rfl) (by rfl) d_Parish_readPerson_81) (og_iconst (by decide) d_Parish_readPerson_82) d_Parish_readPerson_83) (og_qadd_Yard_people_N (og_f_Parish_beginning (og_aload_n (i := 0) (t := 12) (j := 0) (by rfl) (by rfl) d_Parish_readPerson_84) og_w147 d_Parish_readPerson_85) d_Parish_readPerson_88 d_Parish_readPerson_89 (og_iconst (by decide) d_Parish_readPerson_92) d_Parish_readPerson_93 og_w51 d_Parish_readPerson_94))))))))) (fun _ => d_Parish_readPerson_97)
abbrev og_c_Script_begin : ByteArray := prog_9_method_4_code
abbrev og_y_Script_begin : MethodName := ⟨"OpenGraves$Script", "begin", "(I)V"⟩
theorem v_Script_begin {own : String} {idx dep : Nat} (h : 1 + 1 ≤ dep) : og_sV own idx og_y_Script_begin og_c_Script_begin 2 2 1 dep 11 1 := ⟨⟨10, og_sl_Script, og_T_Script, 4, rfl, by decide, rfl⟩, og_w574, og_w575, og_w4, og_w576, ⟨by decide +kernel, by decide +kernel, by decide +kernel⟩, h, by decide⟩
theorem d_Script_begin_0 : decode og_c_Script_begin 0 = .ok (.aload_n 0, 1) := by decide +kernel
theorem d_Script_begin_1 : decode og_c_Script_begin 1 = .ok (.getfield 15, 3) := by decide +kernel
theorem d_Script_begin_4 : decode og_c_Script_begin 4 = .ok (.iload_n 1, 1) := by decide +kernel
theorem d_Script_begin_5 : decode og_c_Script_begin 5 = .ok (.aload_n 0, 1) := by decide +kernel
theorem d_Script_begin_6 : decode og_c_Script_begin 6 = .ok (.getfield 21, 3) := by decide +kernel
theorem d_Script_begin_9 : decode og_c_Script_begin 9 = .ok (.iastore, 1) := by decide +kernel
theorem d_Script_begin_10 : decode og_c_Script_begin 10 = .ok (.return_, 1) := by decide +kernel
def m_Script_begin : og_Dn := og_den [15, 0] 2 2 (og_ast 14 (og_fix (fun i => i + 2) (og_loc 0)) (og_loc 1) (og_get 3 (og_loc 0)))
set_option maxRecDepth 20000 in
theorem ok_Script_begin : og_MOK og_y_Script_begin og_c_Script_begin 2 2 1 [15, 0] m_Script_begin := og_method (b := 10) (lt' := [(0, 15), (1, 0)]) (by decide +kernel) (by decide) (by decide) (og_iastore (N := 14) (og_f_Script_from (og_aload_n (i := 0) (t := 13) (j := 0) (by rfl) (by rfl) d_Script_begin_0) og_w133 d_Script_begin_1) (by rfl) (og_iload_n (i := 1) (j := 1) (by rfl) (by rfl) d_Script_begin_4) (og_f_Script_size (og_aload_n (i := 0) (t := 13) (j := 0) (by rfl) (by rfl) d_Script_begin_5) og_w137 d_Script_begin_6) d_Script_begin_9) (fun _ => d_Script_begin_10)
