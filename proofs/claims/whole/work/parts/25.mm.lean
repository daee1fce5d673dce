abbrev og_c_Model_isIn : ByteArray := prog_14_method_2_code
abbrev og_y_Model_isIn : MethodName := ⟨"OpenGravesModel", "isIn", "(JJJ)Z"⟩
theorem v_Model_isIn {dep : Nat} (h : 1 + 1 ≤ dep) : og_sS og_y_Model_isIn og_c_Model_isIn 6 3 1 dep 3 := ⟨og_w1521, og_w17, og_w1522, ⟨by decide +kernel, by decide +kernel, by decide +kernel⟩, h, by decide⟩
theorem d_Model_isIn_0 : decode og_c_Model_isIn 0 = .ok (.lload_n 0, 1) := by decide +kernel
theorem d_Model_isIn_1 : decode og_c_Model_isIn 1 = .ok (.lload_n 2, 1) := by decide +kernel
theorem d_Model_isIn_2 : decode og_c_Model_isIn 2 = .ok (.lcmp, 1) := by decide +kernel
theorem d_Model_isIn_3 : decode og_c_Model_isIn 3 = .ok (.ifCond .lt 14, 3) := by decide +kernel
theorem d_Model_isIn_6 : decode og_c_Model_isIn 6 = .ok (.lload_n 0, 1) := by decide +kernel
theorem d_Model_isIn_7 : decode og_c_Model_isIn 7 = .ok (.lload 4, 2) := by decide +kernel
theorem d_Model_isIn_9 : decode og_c_Model_isIn 9 = .ok (.lcmp, 1) := by decide +kernel
theorem d_Model_isIn_10 : decode og_c_Model_isIn 10 = .ok (.ifCond .gt 7, 3) := by decide +kernel
theorem d_Model_isIn_13 : decode og_c_Model_isIn 13 = .ok (.iconst 1, 1) := by decide +kernel
theorem d_Model_isIn_14 : decode og_c_Model_isIn 14 = .ok (.goto 4, 3) := by decide +kernel
theorem d_Model_isIn_17 : decode og_c_Model_isIn 17 = .ok (.iconst 0, 1) := by decide +kernel
theorem d_Model_isIn_18 : decode og_c_Model_isIn 18 = .ok (.ireturn, 1) := by decide +kernel
def m_Model_isIn : og_Dn := og_den [1, 1, 1] 6 3 (og_retz (og_ec (og_and (og_cc og_rge (og_loc 0) (og_loc 2)) (og_cc og_rle (og_loc 0) (og_loc 4)))))
set_option maxRecDepth 20000 in
theorem ok_Model_isIn : og_MOK og_y_Model_isIn og_c_Model_isIn 6 3 1 [1, 1, 1] m_Model_isIn := og_method (b := 0) (lt' := []) (by decide +kernel) (by decide) (by decide) (og_sretz (og_econd (b := 0) (og_cand (og_ccn og_n_ge (og_llt (tgt := 17) (og_lload_n (i := 0) (j := 0) (by rfl) (by rfl) d_Model_isIn_0) (og_lload_n (i := 2) (j := 1) (by rfl) (by rfl) d_Model_isIn_1) d_Model_isIn_2 d_Model_isIn_3 (by decide))) (og_ccn og_n_le (og_lgt (tgt := 17) (og_lload_n (i := 0) (j := 0) (by rfl) (by rfl) d_Model_isIn_6) (og_lload (i := 4) (j := 2) (by rfl) d_Model_isIn_7) d_Model_isIn_9 d_Model_isIn_10 (by decide)))) d_Model_isIn_13 d_Model_isIn_14 (by decide) d_Model_isIn_17 (by rfl)) d_Model_isIn_18) (fun h => by cases h)
abbrev og_c_Model_cut : ByteArray := prog_14_method_3_code
abbrev og_y_Model_cut : MethodName := ⟨"OpenGravesModel", "cut", "(JI)I"⟩
theorem v_Model_cut {dep : Nat} (h : 1 + 1 ≤ dep) : og_sS og_y_Model_cut og_c_Model_cut 3 0 1 dep 2 := ⟨og_w1740, og_w17, og_w1741, ⟨by decide +kernel, by decide +kernel, by decide +kernel⟩, h, by decide⟩
theorem d_Model_cut_0 : decode og_c_Model_cut 0 = .ok (.lload_n 0, 1) := by decide +kernel
theorem d_Model_cut_1 : decode og_c_Model_cut 1 = .ok (.lconst 0, 1) := by decide +kernel
theorem d_Model_cut_2 : decode og_c_Model_cut 2 = .ok (.lcmp, 1) := by decide +kernel
theorem d_Model_cut_3 : decode og_c_Model_cut 3 = .ok (.ifCond .ge 7, 3) := by decide +kernel
theorem d_Model_cut_6 : decode og_c_Model_cut 6 = .ok (.iconst 0, 1) := by decide +kernel
theorem d_Model_cut_7 : decode og_c_Model_cut 7 = .ok (.goto 16, 3) := by decide +kernel
theorem d_Model_cut_10 : decode og_c_Model_cut 10 = .ok (.lload_n 0, 1) := by decide +kernel
theorem d_Model_cut_11 : decode og_c_Model_cut 11 = .ok (.iload_n 2, 1) := by decide +kernel
theorem d_Model_cut_12 : decode og_c_Model_cut 12 = .ok (.i2l, 1) := by decide +kernel
theorem d_Model_cut_13 : decode og_c_Model_cut 13 = .ok (.lcmp, 1) := by decide +kernel
theorem d_Model_cut_14 : decode og_c_Model_cut 14 = .ok (.ifCond .le 7, 3) := by decide +kernel
theorem d_Model_cut_17 : decode og_c_Model_cut 17 = .ok (.iload_n 2, 1) := by decide +kernel
theorem d_Model_cut_18 : decode og_c_Model_cut 18 = .ok (.goto 5, 3) := by decide +kernel
theorem d_Model_cut_21 : decode og_c_Model_cut 21 = .ok (.lload_n 0, 1) := by decide +kernel
theorem d_Model_cut_22 : decode og_c_Model_cut 22 = .ok (.l2i, 1) := by decide +kernel
theorem d_Model_cut_23 : decode og_c_Model_cut 23 = .ok (.ireturn, 1) := by decide +kernel
def m_Model_cut : og_Dn := og_den [1, 0] 3 0 (og_ret (og_ei (og_cc og_rlt (og_loc 0) (og_k 0)) (og_k 0) (og_ei (og_cc og_rgt (og_loc 0) (og_i2l (og_loc 2))) (og_loc 2) (og_l2i (og_loc 0)))))
set_option maxRecDepth 20000 in
theorem ok_Model_cut : og_MOK og_y_Model_cut og_c_Model_cut 3 0 1 [1, 0] m_Model_cut := og_method (b := 0) (lt' := []) (by decide +kernel) (by decide) (by decide) (og_sreti (og_eite (og_ccn og_n_lt (og_lge (tgt := 10) (og_lload_n (i := 0) (j := 0) (by rfl) (by rfl) d_Model_cut_0) (og_lconst (x := 0) d_Model_cut_1) d_Model_cut_2 d_Model_cut_3 (by decide))) (og_iconst (by decide) d_Model_cut_6) d_Model_cut_7 (by decide) (og_eite (og_ccn og_n_gt (og_lle (tgt := 21) (og_lload_n (i := 0) (j := 0) (by rfl) (by rfl) d_Model_cut_10) (og_i2l_ (og_iload_n (i := 2) (j := 1) (by rfl) (by rfl) d_Model_cut_11) d_Model_cut_12) d_Model_cut_13 d_Model_cut_14 (by decide))) (og_iload_n (i := 2) (j := 1) (by rfl) (by rfl) d_Model_cut_17) d_Model_cut_18 (by decide) (og_l2i_ (og_lload_n (i := 0) (j := 0) (by rfl) (by rfl) d_Model_cut_21) d_Model_cut_22))) d_Model_cut_23) (fun h => by cases h)
abbrev og_c_Model_feed : ByteArray := prog_14_method_4_code
abbrev og_y_Model_feed : MethodName := ⟨"OpenGravesModel", "feed", "(IIIII)I"⟩
theorem v_Model_feed {own : String} {idx dep : Nat} (h : 1 + 1 ≤ dep) : og_sV own idx og_y_Model_feed og_c_Model_feed 8 0 1 dep 13 5 := ⟨⟨12, og_sl_Model, og_T_Model, 102, rfl, by decide, rfl⟩, og_w1453, og_w1454, og_w17, og_w1455, ⟨by decide +kernel, by decide +kernel, by decide +kernel⟩, h, by decide⟩
theorem d_Model_feed_0 : decode og_c_Model_feed 0 = .ok (.aload_n 0, 1) := by decide +kernel
theorem d_Model_feed_1 : decode og_c_Model_feed 1 = .ok (.getfield 239, 3) := by decide +kernel
theorem d_Model_feed_4 : decode og_c_Model_feed 4 = .ok (.bipush 20, 2) := by decide +kernel
theorem d_Model_feed_6 : decode og_c_Model_feed 6 = .ok (.iadd, 1) := by decide +kernel
theorem d_Model_feed_7 : decode og_c_Model_feed 7 = .ok (.sipush 1600, 3) := by decide +kernel
theorem d_Model_feed_10 : decode og_c_Model_feed 10 = .ok (.if_icmp .le 15, 3) := by decide +kernel
theorem d_Model_feed_13 : decode og_c_Model_feed 13 = .ok (.aload_n 0, 1) := by decide +kernel
theorem d_Model_feed_14 : decode og_c_Model_feed 14 = .ok (.getfield 17, 3) := by decide +kernel
theorem d_Model_feed_17 : decode og_c_Model_feed 17 = .ok (.iconst 0, 1) := by decide +kernel
theorem d_Model_feed_18 : decode og_c_Model_feed 18 = .ok (.dup2, 1) := by decide +kernel
theorem d_Model_feed_19 : decode og_c_Model_feed 19 = .ok (.iaload, 1) := by decide +kernel
theorem d_Model_feed_20 : decode og_c_Model_feed 20 = .ok (.iconst 1, 1) := by decide +kernel
theorem d_Model_feed_21 : decode og_c_Model_feed 21 = .ok (.iadd, 1) := by decide +kernel
theorem d_Model_feed_22 : decode og_c_Model_feed 22 = .ok (.iastore, 1) := by decide +kernel
theorem d_Model_feed_23 : decode og_c_Model_feed 23 = .ok (.iconst (-1), 1) := by decide +kernel
theorem d_Model_feed_24 : decode og_c_Model_feed 24 = .ok (.ireturn, 1) := by decide +kernel
theorem d_Model_feed_25 : decode og_c_Model_feed 25 = .ok (.iconst 0, 1) := by decide +kernel
theorem d_Model_feed_26 : decode og_c_Model_feed 26 = .ok (.istore 6, 2) := by decide +kernel
theorem d_Model_feed_28 : decode og_c_Model_feed 28 = .ok (.iload 6, 2) := by decide +kernel
theorem d_Model_feed_30 : decode og_c_Model_feed 30 = .ok (.bipush 20, 2) := by decide +kernel
theorem d_Model_feed_32 : decode og_c_Model_feed 32 = .ok (.if_icmp .ge 92, 3) := by decide +kernel
theorem d_Model_feed_35 : decode og_c_Model_feed 35 = .ok (.iload 6, 2) := by decide +kernel
theorem d_Model_feed_37 : decode og_c_Model_feed 37 = .ok (.iconst 4, 1) := by decide +kernel
theorem d_Model_feed_38 : decode og_c_Model_feed 38 = .ok (.if_icmp .ge 7, 3) := by decide +kernel
theorem d_Model_feed_41 : decode og_c_Model_feed 41 = .ok (.iload_n 1, 1) := by decide +kernel
theorem d_Model_feed_42 : decode og_c_Model_feed 42 = .ok (.goto 39, 3) := by decide +kernel
theorem d_Model_feed_45 : decode og_c_Model_feed 45 = .ok (.iload 6, 2) := by decide +kernel
theorem d_Model_feed_47 : decode og_c_Model_feed 47 = .ok (.bipush 8, 2) := by decide +kernel
theorem d_Model_feed_49 : decode og_c_Model_feed 49 = .ok (.if_icmp .ge 7, 3) := by decide +kernel
theorem d_Model_feed_52 : decode og_c_Model_feed 52 = .ok (.iload_n 2, 1) := by decide +kernel
theorem d_Model_feed_53 : decode og_c_Model_feed 53 = .ok (.goto 28, 3) := by decide +kernel
theorem d_Model_feed_56 : decode og_c_Model_feed 56 = .ok (.iload 6, 2) := by decide +kernel
theorem d_Model_feed_58 : decode og_c_Model_feed 58 = .ok (.bipush 12, 2) := by decide +kernel
theorem d_Model_feed_60 : decode og_c_Model_feed 60 = .ok (.if_icmp .ge 7, 3) := by decide +kernel
theorem d_Model_feed_63 : decode og_c_Model_feed 63 = .ok (.iload_n 3, 1) := by decide +kernel
theorem d_Model_feed_64 : decode og_c_Model_feed 64 = .ok (.goto 17, 3) := by decide +kernel
theorem d_Model_feed_67 : decode og_c_Model_feed 67 = .ok (.iload 6, 2) := by decide +kernel
theorem d_Model_feed_69 : decode og_c_Model_feed 69 = .ok (.bipush 16, 2) := by decide +kernel
theorem d_Model_feed_71 : decode og_c_Model_feed 71 = .ok (.if_icmp .ge 8, 3) := by decide +kernel
theorem d_Model_feed_74 : decode og_c_Model_feed 74 = .ok (.iload 4, 2) := by decide +kernel
theorem d_Model_feed_76 : decode og_c_Model_feed 76 = .ok (.goto 5, 3) := by decide +kernel
theorem d_Model_feed_79 : decode og_c_Model_feed 79 = .ok (.iload 5, 2) := by decide +kernel
theorem d_Model_feed_81 : decode og_c_Model_feed 81 = .ok (.istore 7, 2) := by decide +kernel
theorem d_Model_feed_83 : decode og_c_Model_feed 83 = .ok (.aload_n 0, 1) := by decide +kernel
theorem d_Model_feed_84 : decode og_c_Model_feed 84 = .ok (.getfield 7, 3) := by decide +kernel
theorem d_Model_feed_87 : decode og_c_Model_feed 87 = .ok (.aload_n 0, 1) := by decide +kernel
theorem d_Model_feed_88 : decode og_c_Model_feed 88 = .ok (.getfield 239, 3) := by decide +kernel
theorem d_Model_feed_91 : decode og_c_Model_feed 91 = .ok (.iload 7, 2) := by decide +kernel
theorem d_Model_feed_93 : decode og_c_Model_feed 93 = .ok (.bipush 8, 2) := by decide +kernel
theorem d_Model_feed_95 : decode og_c_Model_feed 95 = .ok (.iconst 3, 1) := by decide +kernel
theorem d_Model_feed_96 : decode og_c_Model_feed 96 = .ok (.iload 6, 2) := by decide +kernel
theorem d_Model_feed_98 : decode og_c_Model_feed 98 = .ok (.iconst 4, 1) := by decide +kernel
theorem d_Model_feed_99 : decode og_c_Model_feed 99 = .ok (.irem, 1) := by decide +kernel
theorem d_Model_feed_100 : decode og_c_Model_feed 100 = .ok (.isub, 1) := by decide +kernel
theorem d_Model_feed_101 : decode og_c_Model_feed 101 = .ok (.imul, 1) := by decide +kernel
theorem d_Model_feed_102 : decode og_c_Model_feed 102 = .ok (.ishr, 1) := by decide +kernel
theorem d_Model_feed_103 : decode og_c_Model_feed 103 = .ok (.sipush 255, 3) := by decide +kernel
theorem d_Model_feed_106 : decode og_c_Model_feed 106 = .ok (.iand, 1) := by decide +kernel
theorem d_Model_feed_107 : decode og_c_Model_feed 107 = .ok (.iastore, 1) := by decide +kernel
theorem d_Model_feed_108 : decode og_c_Model_feed 108 = .ok (.aload_n 0, 1) := by decide +kernel
theorem d_Model_feed_109 : decode og_c_Model_feed 109 = .ok (.dup, 1) := by decide +kernel
theorem d_Model_feed_110 : decode og_c_Model_feed 110 = .ok (.getfield 239, 3) := by decide +kernel
theorem d_Model_feed_113 : decode og_c_Model_feed 113 = .ok (.iconst 1, 1) := by decide +kernel
theorem d_Model_feed_114 : decode og_c_Model_feed 114 = .ok (.iadd, 1) := by decide +kernel
theorem d_Model_feed_115 : decode og_c_Model_feed 115 = .ok (.putfield 239, 3) := by decide +kernel
theorem d_Model_feed_118 : decode og_c_Model_feed 118 = .ok (.iinc 6 1, 3) := by decide +kernel
theorem d_Model_feed_121 : decode og_c_Model_feed 121 = .ok (.goto (-93), 3) := by decide +kernel
theorem d_Model_feed_124 : decode og_c_Model_feed 124 = .ok (.aload_n 0, 1) := by decide +kernel
theorem d_Model_feed_125 : decode og_c_Model_feed 125 = .ok (.getfield 239, 3) := by decide +kernel
theorem d_Model_feed_128 : decode og_c_Model_feed 128 = .ok (.ireturn, 1) := by decide +kernel
def m_Model_feed : og_Dn := og_den [17, 0, 0, 0, 0, 0] 8 0 (og_seq (og_if (og_cc og_rgt (og_add (og_get 1 (og_loc 0)) (og_k 20)) (og_k 1600)) (og_seq (og_aop og_padd 6 (og_fix (fun _ => 1002) (og_loc 0)) (og_k 0) (og_k 1)) (og_ret (og_k (-1)))) (og_skip)) (og_cut (og_seq (og_set 6 (og_k 0)) (og_while (og_cc og_rlt (og_loc 6) (og_k 20)) (og_seq (og_set 7 (og_ei (og_cc og_rlt (og_loc 6) (og_k 4)) (og_loc 1) (og_ei (og_cc og_rlt (og_loc 6) (og_k 8)) (og_loc 2) (og_ei (og_cc og_rlt (og_loc 6) (og_k 12)) (og_loc 3) (og_ei (og_cc og_rlt (og_loc 6) (og_k 16)) (og_loc 4) (og_loc 5)))))) (og_seq (og_ast 1600 (og_fix (fun _ => 1001) (og_loc 0)) (og_get 1 (og_loc 0)) (og_bop og_oand (og_bop og_oshr (og_loc 7) (og_mul (og_k 8) (og_sub (og_k 3) (og_rem (og_loc 6) (og_k 4))))) (og_k 255))) (og_pop32 og_padd 1 (og_loc 0) (og_k 1)))) (og_inc 6 1))) (og_ret (og_get 1 (og_loc 0)))))
set_option maxRecDepth 20000 in
theorem ok_Model_feed : og_MOK og_y_Model_feed og_c_Model_feed 8 0 1 [17, 0, 0, 0, 0, 0] m_Model_feed := og_method (b := 0) (lt' := []) (by decide +kernel) (by decide) (by decide) (og_sseq (og_sif (T := 13) (F := 25) (og_ccn og_n_gt (og_ile (tgt := 25) (og_iadd (og_f_Model_taped (og_aload_n (i := 0) (t := 15) (j := 0) (by rfl) (by rfl) d_Model_feed_0) og_w1144 d_Model_feed_1) (og_bipush (by decide) d_Model_feed_4) d_Model_feed_6) (og_sipush (by decide) d_Model_feed_7) d_Model_feed_10 (by decide))) (og_sseq (og_aadd (N := 6) (og_f_Model_refused (og_aload_n (i := 0) (t := 15) (j := 0) (by rfl) (by rfl) d_Model_feed_13) og_w1152 d_Model_feed_14) (by rfl) (og_iconst (by decide) d_Model_feed_17) d_Model_feed_18 d_Model_feed_19 (og_iconst (by decide) d_Model_feed_20) d_Model_feed_21 d_Model_feed_22) (og_sreti (og_iconst (by decide) d_Model_feed_23) d_Model_feed_24)) (og_sskip)) (og_scut (og_sdrop (lt' := [(0, 17), (1, 0), (2, 0), (3, 0), (4, 0), (5, 0), (6, 0)]) (lt2 := [(0, 17), (1, 0), (2, 0), (3, 0), (4, 0), (5, 0)]) (og_sseq (og_istore (i := 6) (lt' := [(0, 17), (1, 0), (2, 0), (3, 0), (4, 0), (5, 0), (6, 0)]) (og_iconst (by decide) d_Model_feed_25) (by decide) (by decide) d_Model_feed_26) (og_swhile (T := 35) (F := 124) (cp0 := 118) (og_ccn og_n_lt (og_ige (tgt := 124) (og_iload (i := 6) (j := 6) (by rfl) d_Model_feed_28) (og_bipush (by decide) d_Model_feed_30) d_Model_feed_32 (by decide))) (og_sdrop (lt' := [(0, 17), (1, 0), (2, 0), (3, 0), (4, 0), (5, 0), (6, 0), (7, 0)]) (lt2 := [(0, 17), (1, 0), (2, 0), (3, 0), (4, 0), (5, 0), (6, 0)]) (og_sseq (og_istore (i := 7) (lt' := [(0, 17), (1, 0), (2, 0), (3, 0), (4, 0), (5, 0), (6, 0), (7, 0)]) (og_eite (og_ccn og_n_lt (og_ige (tgt := 45) (og_iload (i := 6) (j := 6) (by rfl) d_Model_feed_35) (og_iconst (by decide) d_Model_feed_37) d_Model_feed_38 (by decide))) (og_iload_n (i := 1) (j := 1) (by rfl) (by rfl) d_Model_feed_41) d_Model_feed_42 (by decide) (og_eite (og_ccn og_n_lt (og_ige (tgt := 56) (og_iload (i := 6) (j := 6) (by rfl) d_Model_feed_45) (og_bipush (by decide) d_Model_feed_47) d_Model_feed_49 (by decide))) (og_iload_n (i := 2) (j := 2) (by rfl) (by rfl) d_Model_feed_52) d_Model_feed_53 (by decide) (og_eite (og_ccn og_n_lt (og_ige (tgt := 67) (og_iload (i := 6) (j := 6) (by rfl) d_Model_feed_56) (og_bipush (by decide) d_Model_feed_58) d_Model_feed_60 (by decide))) (og_iload_n (i := 3) (j := 3) (by rfl) (by rfl) d_Model_feed_63) d_Model_feed_64 (by decide) (og_eite (og_ccn og_n_lt (og_ige (tgt := 79) (og_iload (i := 6) (j := 6) (by rfl) d_Model_feed_67) (og_bipush (by decide) d_Model_feed_69) d_Model_feed_71 (by decide))) (og_iload (i := 4) (j := 4) (by rfl) d_Model_feed_74) d_Model_feed_76 (by decide) (og_iload (i := 5) (j := 5) (by rfl) d_Model_feed_79))))) (by decide) (by decide) d_Model_feed_81) (og_sseq (og_iastore (N := 1600) (og_f_Model_tape (og_aload_n (i := 0) (t := 15) (j := 0) (by rfl) (by rfl) d_Model_feed_83) og_w1143 d_Model_feed_84) (by rfl) (og_f_Model_taped (og_aload_n (i := 0) (t := 15) (j := 0) (by rfl) (by rfl) d_Model_feed_87) og_w1144 d_Model_feed_88) (og_iand (og_ishr (og_iload (i := 7) (j := 7) (by rfl) d_Model_feed_91) (og_imul (og_bipush (by decide) d_Model_feed_93) (og_isub (og_iconst (by decide) d_Model_feed_95) (og_irem (og_iload (i := 6) (j := 6) (by rfl) d_Model_feed_96) (og_iconst (by decide) d_Model_feed_98) d_Model_feed_99) d_Model_feed_100) d_Model_feed_101) d_Model_feed_102) (og_sipush (by decide) d_Model_feed_103) d_Model_feed_106) d_Model_feed_107) (og_qadd_Model_taped (og_aload_n (i := 0) (t := 15) (j := 0) (by rfl) (by rfl) d_Model_feed_108) d_Model_feed_109 d_Model_feed_110 (og_iconst (by decide) d_Model_feed_113) d_Model_feed_114 og_w1144 d_Model_feed_115))) (by decide)) (og_gS (b' := 28) (og_iinc (j := 6) (lt' := [(0, 17), (1, 0), (2, 0), (3, 0), (4, 0), (5, 0), (6, 0)]) (by rfl) (by decide) (by decide) d_Model_feed_118) d_Model_feed_121 (by decide)))) (by decide)) (og_sreti (og_f_Model_taped (og_aload_n (i := 0) (t := 15) (j := 0) (by rfl) (by rfl) d_Model_feed_124) og_w1144 d_Model_feed_125) d_Model_feed_128))) (fun h => by cases h)
abbrev og_c_Model_end : ByteArray := prog_14_method_5_code
abbrev og_y_Model_end : MethodName := ⟨"OpenGravesModel", "end", "(I)Z"⟩
theorem v_Model_end {own : String} {idx dep : Nat} (h : 1 + 1 ≤ dep) : og_sV own idx og_y_Model_end og_c_Model_end 2 3 1 dep 13 1 := ⟨⟨12, og_sl_Model, og_T_Model, 102, rfl, by decide, rfl⟩, og_w1457, og_w1458, og_w17, og_w1459, ⟨by decide +kernel, by decide +kernel, by decide +kernel⟩, h, by decide⟩
theorem d_Model_end_0 : decode og_c_Model_end 0 = .ok (.iload_n 1, 1) := by decide +kernel
theorem d_Model_end_1 : decode og_c_Model_end 1 = .ok (.ifCond .lt 11, 3) := by decide +kernel
theorem d_Model_end_4 : decode og_c_Model_end 4 = .ok (.iload_n 1, 1) := by decide +kernel
theorem d_Model_end_5 : decode og_c_Model_end 5 = .ok (.aload_n 0, 1) := by decide +kernel
theorem d_Model_end_6 : decode og_c_Model_end 6 = .ok (.getfield 239, 3) := by decide +kernel
theorem d_Model_end_9 : decode og_c_Model_end 9 = .ok (.if_icmp .le 15, 3) := by decide +kernel
theorem d_Model_end_12 : decode og_c_Model_end 12 = .ok (.aload_n 0, 1) := by decide +kernel
theorem d_Model_end_13 : decode og_c_Model_end 13 = .ok (.getfield 17, 3) := by decide +kernel
theorem d_Model_end_16 : decode og_c_Model_end 16 = .ok (.iconst 0, 1) := by decide +kernel
theorem d_Model_end_17 : decode og_c_Model_end 17 = .ok (.dup2, 1) := by decide +kernel
theorem d_Model_end_18 : decode og_c_Model_end 18 = .ok (.iaload, 1) := by decide +kernel
theorem d_Model_end_19 : decode og_c_Model_end 19 = .ok (.iconst 1, 1) := by decide +kernel
theorem d_Model_end_20 : decode og_c_Model_end 20 = .ok (.iadd, 1) := by decide +kernel
theorem d_Model_end_21 : decode og_c_Model_end 21 = .ok (.iastore, 1) := by decide +kernel
theorem d_Model_end_22 : decode og_c_Model_end 22 = .ok (.iconst 0, 1) := by decide +kernel
theorem d_Model_end_23 : decode og_c_Model_end 23 = .ok (.ireturn, 1) := by decide +kernel
theorem d_Model_end_24 : decode og_c_Model_end 24 = .ok (.aload_n 0, 1) := by decide +kernel
theorem d_Model_end_25 : decode og_c_Model_end 25 = .ok (.iload_n 1, 1) := by decide +kernel
theorem d_Model_end_26 : decode og_c_Model_end 26 = .ok (.putfield 239, 3) := by decide +kernel
theorem d_Model_end_29 : decode og_c_Model_end 29 = .ok (.iconst 1, 1) := by decide +kernel
theorem d_Model_end_30 : decode og_c_Model_end 30 = .ok (.ireturn, 1) := by decide +kernel
def m_Model_end : og_Dn := og_den [17, 0] 2 3 (og_seq (og_if (og_or (og_cc og_rlt (og_loc 1) (og_k 0)) (og_cc og_rgt (og_loc 1) (og_get 1 (og_loc 0)))) (og_seq (og_aop og_padd 6 (og_fix (fun _ => 1002) (og_loc 0)) (og_k 0) (og_k 1)) (og_retz (og_k 0))) (og_skip)) (og_seq (og_putf 1 (og_loc 0) (og_loc 1)) (og_retz (og_k 1))))
set_option maxRecDepth 20000 in
theorem ok_Model_end : og_MOK og_y_Model_end og_c_Model_end 2 3 1 [17, 0] m_Model_end := og_method (b := 0) (lt' := []) (by decide +kernel) (by decide) (by decide) (og_sseq (og_sif (T := 12) (F := 24) (og_cor (og_zlt (tgt := 12) (og_iload_n (i := 1) (j := 1) (by rfl) (by rfl) d_Model_end_0) d_Model_end_1 (by decide)) (og_ccn og_n_gt (og_ile (tgt := 24) (og_iload_n (i := 1) (j := 1) (by rfl) (by rfl) d_Model_end_4) (og_f_Model_taped (og_aload_n (i := 0) (t := 15) (j := 0) (by rfl) (by rfl) d_Model_end_5) og_w1144 d_Model_end_6) d_Model_end_9 (by decide)))) (og_sseq (og_aadd (N := 6) (og_f_Model_refused (og_aload_n (i := 0) (t := 15) (j := 0) (by rfl) (by rfl) d_Model_end_12) og_w1152 d_Model_end_13) (by rfl) (og_iconst (by decide) d_Model_end_16) d_Model_end_17 d_Model_end_18 (og_iconst (by decide) d_Model_end_19) d_Model_end_20 d_Model_end_21) (og_sretz (og_iconst (by decide) d_Model_end_22) d_Model_end_23)) (og_sskip)) (og_sseq (og_p_Model_taped (og_aload_n (i := 0) (t := 15) (j := 0) (by rfl) (by rfl) d_Model_end_24) (og_iload_n (i := 1) (j := 1) (by rfl) (by rfl) d_Model_end_25) og_w1144 d_Model_end_26) (og_sretz (og_iconst (by decide) d_Model_end_29) d_Model_end_30))) (fun h => by cases h)
abbrev og_c_Model_fail : ByteArray := prog_14_method_6_code
abbrev og_y_Model_fail : MethodName := ⟨"OpenGravesModel", "fail", "(II)V"⟩
theorem v_Model_fail {own : String} {idx dep : Nat} (h : 1 + 1 ≤ dep) : og_sV own idx og_y_Model_fail og_c_Model_fail 3 2 1 dep 13 2 := ⟨⟨12, og_sl_Model, og_T_Model, 102, rfl, by decide, rfl⟩, og_w1493, (og_memP (⟨"OpenGravesModel", "fail", "(II)V"⟩, 102) (List.mem_of_getElem? (i := 57) (by decide +kernel))), og_w17, og_w1494, ⟨by decide +kernel, by decide +kernel, by decide +kernel⟩, h, by decide⟩
theorem d_Model_fail_0 : decode og_c_Model_fail 0 = .ok (.aload_n 0, 1) := by decide +kernel
theorem d_Model_fail_1 : decode og_c_Model_fail 1 = .ok (.getfield 242, 3) := by decide +kernel
theorem d_Model_fail_4 : decode og_c_Model_fail 4 = .ok (.ifCond .eq 4, 3) := by decide +kernel
theorem d_Model_fail_7 : decode og_c_Model_fail 7 = .ok (.return_, 1) := by decide +kernel
theorem d_Model_fail_8 : decode og_c_Model_fail 8 = .ok (.aload_n 0, 1) := by decide +kernel
theorem d_Model_fail_9 : decode og_c_Model_fail 9 = .ok (.iload_n 1, 1) := by decide +kernel
theorem d_Model_fail_10 : decode og_c_Model_fail 10 = .ok (.putfield 242, 3) := by decide +kernel
theorem d_Model_fail_13 : decode og_c_Model_fail 13 = .ok (.aload_n 0, 1) := by decide +kernel
theorem d_Model_fail_14 : decode og_c_Model_fail 14 = .ok (.iload_n 2, 1) := by decide +kernel
theorem d_Model_fail_15 : decode og_c_Model_fail 15 = .ok (.putfield 245, 3) := by decide +kernel
theorem d_Model_fail_18 : decode og_c_Model_fail 18 = .ok (.return_, 1) := by decide +kernel
def m_Model_fail : og_Dn := og_den [17, 0, 0] 3 2 (og_seq (og_if (og_cc og_rne (og_get 5 (og_loc 0)) (og_k 0)) (og_retv) (og_skip)) (og_seq (og_putf 5 (og_loc 0) (og_loc 1)) (og_putf 6 (og_loc 0) (og_loc 2))))
set_option maxRecDepth 20000 in
theorem ok_Model_fail : og_MOK og_y_Model_fail og_c_Model_fail 3 2 1 [17, 0, 0] m_Model_fail := og_method (b := 18) (lt' := [(0, 17), (1, 0), (2, 0)]) (by decide +kernel) (by decide) (by decide) (og_sseq (og_sif (T := 7) (F := 8) (og_ccn og_n_ne (og_zeq (tgt := 8) (og_f_Model_bad (og_aload_n (i := 0) (t := 15) (j := 0) (by rfl) (by rfl) d_Model_fail_0) og_w1148 d_Model_fail_1) d_Model_fail_4 (by decide))) (og_sretv d_Model_fail_7) (og_sskip)) (og_sseq (og_p_Model_bad (og_aload_n (i := 0) (t := 15) (j := 0) (by rfl) (by rfl) d_Model_fail_8) (og_iload_n (i := 1) (j := 1) (by rfl) (by rfl) d_Model_fail_9) og_w1148 d_Model_fail_10) (og_p_Model_badPlace (og_aload_n (i := 0) (t := 15) (j := 0) (by rfl) (by rfl) d_Model_fail_13) (og_iload_n (i := 2) (j := 2) (by rfl) (by rfl) d_Model_fail_14) og_w1149 d_Model_fail_15))) (fun _ => d_Model_fail_18)
abbrev og_c_Model_isLetter : ByteArray := prog_14_method_7_code
abbrev og_y_Model_isLetter : MethodName := ⟨"OpenGravesModel", "isLetter", "(I)Z"⟩
theorem v_Model_isLetter {dep : Nat} (h : 1 + 1 ≤ dep) : og_sS og_y_Model_isLetter og_c_Model_isLetter 1 3 1 dep 1 := ⟨og_w1481, og_w17, og_w1482, ⟨by decide +kernel, by decide +kernel, by decide +kernel⟩, h, by decide⟩
theorem d_Model_isLetter_0 : decode og_c_Model_isLetter 0 = .ok (.iload_n 0, 1) := by decide +kernel
theorem d_Model_isLetter_1 : decode og_c_Model_isLetter 1 = .ok (.bipush 97, 2) := by decide +kernel
theorem d_Model_isLetter_3 : decode og_c_Model_isLetter 3 = .ok (.if_icmp .lt 13, 3) := by decide +kernel
theorem d_Model_isLetter_6 : decode og_c_Model_isLetter 6 = .ok (.iload_n 0, 1) := by decide +kernel
theorem d_Model_isLetter_7 : decode og_c_Model_isLetter 7 = .ok (.bipush 122, 2) := by decide +kernel
theorem d_Model_isLetter_9 : decode og_c_Model_isLetter 9 = .ok (.if_icmp .gt 7, 3) := by decide +kernel
theorem d_Model_isLetter_12 : decode og_c_Model_isLetter 12 = .ok (.iconst 1, 1) := by decide +kernel
theorem d_Model_isLetter_13 : decode og_c_Model_isLetter 13 = .ok (.goto 4, 3) := by decide +kernel
theorem d_Model_isLetter_16 : decode og_c_Model_isLetter 16 = .ok (.iconst 0, 1) := by decide +kernel
theorem d_Model_isLetter_17 : decode og_c_Model_isLetter 17 = .ok (.ireturn, 1) := by decide +kernel
def m_Model_isLetter : og_Dn := og_den [0] 1 3 (og_retz (og_ec (og_and (og_cc og_rge (og_loc 0) (og_k 97)) (og_cc og_rle (og_loc 0) (og_k 122)))))
set_option maxRecDepth 20000 in
theorem ok_Model_isLetter : og_MOK og_y_Model_isLetter og_c_Model_isLetter 1 3 1 [0] m_Model_isLetter := og_method (b := 0) (lt' := []) (by decide +kernel) (by decide) (by decide) (og_sretz (og_econd (b := 0) (og_cand (og_ccn og_n_ge (og_ilt (tgt := 16) (og_iload_n (i := 0) (j := 0) (by rfl) (by rfl) d_Model_isLetter_0) (og_bipush (by decide) d_Model_isLetter_1) d_Model_isLetter_3 (by decide))) (og_ccn og_n_le (og_igt (tgt := 16) (og_iload_n (i := 0) (j := 0) (by rfl) (by rfl) d_Model_isLetter_6) (og_bipush (by decide) d_Model_isLetter_7) d_Model_isLetter_9 (by decide)))) d_Model_isLetter_12 d_Model_isLetter_13 (by decide) d_Model_isLetter_16 (by rfl)) d_Model_isLetter_17) (fun h => by cases h)
abbrev og_c_Model_isDigit : ByteArray := prog_14_method_8_code
abbrev og_y_Model_isDigit : MethodName := ⟨"OpenGravesModel", "isDigit", "(I)Z"⟩
theorem v_Model_isDigit {dep : Nat} (h : 1 + 1 ≤ dep) : og_sS og_y_Model_isDigit og_c_Model_isDigit 1 3 1 dep 1 := ⟨og_w1518, og_w17, og_w1519, ⟨by decide +kernel, by decide +kernel, by decide +kernel⟩, h, by decide⟩
theorem d_Model_isDigit_0 : decode og_c_Model_isDigit 0 = .ok (.iload_n 0, 1) := by decide +kernel
theorem d_Model_isDigit_1 : decode og_c_Model_isDigit 1 = .ok (.bipush 48, 2) := by decide +kernel
theorem d_Model_isDigit_3 : decode og_c_Model_isDigit 3 = .ok (.if_icmp .lt 13, 3) := by decide +kernel
theorem d_Model_isDigit_6 : decode og_c_Model_isDigit 6 = .ok (.iload_n 0, 1) := by decide +kernel
theorem d_Model_isDigit_7 : decode og_c_Model_isDigit 7 = .ok (.bipush 57, 2) := by decide +kernel
theorem d_Model_isDigit_9 : decode og_c_Model_isDigit 9 = .ok (.if_icmp .gt 7, 3) := by decide +kernel
theorem d_Model_isDigit_12 : decode og_c_Model_isDigit 12 = .ok (.iconst 1, 1) := by decide +kernel
theorem d_Model_isDigit_13 : decode og_c_Model_isDigit 13 = .ok (.goto 4, 3) := by decide +kernel
theorem d_Model_isDigit_16 : decode og_c_Model_isDigit 16 = .ok (.iconst 0, 1) := by decide +kernel
theorem d_Model_isDigit_17 : decode og_c_Model_isDigit 17 = .ok (.ireturn, 1) := by decide +kernel
def m_Model_isDigit : og_Dn := og_den [0] 1 3 (og_retz (og_ec (og_and (og_cc og_rge (og_loc 0) (og_k 48)) (og_cc og_rle (og_loc 0) (og_k 57)))))
set_option maxRecDepth 20000 in
theorem ok_Model_isDigit : og_MOK og_y_Model_isDigit og_c_Model_isDigit 1 3 1 [0] m_Model_isDigit := og_method (b := 0) (lt' := []) (by decide +kernel) (by decide) (by decide) (og_sretz (og_econd (b := 0) (og_cand (og_ccn og_n_ge (og_ilt (tgt := 16) (og_iload_n (i := 0) (j := 0) (by rfl) (by rfl) d_Model_isDigit_0) (og_bipush (by decide) d_Model_isDigit_1) d_Model_isDigit_3 (by decide))) (og_ccn og_n_le (og_igt (tgt := 16) (og_iload_n (i := 0) (j := 0) (by rfl) (by rfl) d_Model_isDigit_6) (og_bipush (by decide) d_Model_isDigit_7) d_Model_isDigit_9 (by decide)))) d_Model_isDigit_12 d_Model_isDigit_13 (by decide) d_Model_isDigit_16 (by rfl)) d_Model_isDigit_17) (fun h => by cases h)
abbrev og_c_Model_look : ByteArray := prog_14_method_9_code
abbrev og_y_Model_look : MethodName := ⟨"OpenGravesModel", "look", "()I"⟩
theorem v_Model_look {own : String} {idx dep : Nat} (h : 1 + 1 ≤ dep) : og_sV own idx og_y_Model_look og_c_Model_look 1 0 1 dep 13 0 := ⟨⟨12, og_sl_Model, og_T_Model, 102, rfl, by decide, rfl⟩, og_w1466, (og_memP (⟨"OpenGravesModel", "look", "()I"⟩, 102) (List.mem_of_getElem? (i := 51) (by decide +kernel))), og_w17, og_w1467, ⟨by decide +kernel, by decide +kernel, by decide +kernel⟩, h, by decide⟩
theorem d_Model_look_0 : decode og_c_Model_look 0 = .ok (.aload_n 0, 1) := by decide +kernel
theorem d_Model_look_1 : decode og_c_Model_look 1 = .ok (.getfield 248, 3) := by decide +kernel
theorem d_Model_look_4 : decode og_c_Model_look 4 = .ok (.aload_n 0, 1) := by decide +kernel
theorem d_Model_look_5 : decode og_c_Model_look 5 = .ok (.getfield 251, 3) := by decide +kernel
theorem d_Model_look_8 : decode og_c_Model_look 8 = .ok (.if_icmp .ge 44, 3) := by decide +kernel
theorem d_Model_look_11 : decode og_c_Model_look 11 = .ok (.aload_n 0, 1) := by decide +kernel
theorem d_Model_look_12 : decode og_c_Model_look 12 = .ok (.getfield 7, 3) := by decide +kernel
theorem d_Model_look_15 : decode og_c_Model_look 15 = .ok (.aload_n 0, 1) := by decide +kernel
theorem d_Model_look_16 : decode og_c_Model_look 16 = .ok (.getfield 248, 3) := by decide +kernel
theorem d_Model_look_19 : decode og_c_Model_look 19 = .ok (.iaload, 1) := by decide +kernel
theorem d_Model_look_20 : decode og_c_Model_look 20 = .ok (.bipush 10, 2) := by decide +kernel
theorem d_Model_look_22 : decode og_c_Model_look 22 = .ok (.if_icmp .eq 17, 3) := by decide +kernel
theorem d_Model_look_25 : decode og_c_Model_look 25 = .ok (.aload_n 0, 1) := by decide +kernel
theorem d_Model_look_26 : decode og_c_Model_look 26 = .ok (.getfield 7, 3) := by decide +kernel
theorem d_Model_look_29 : decode og_c_Model_look 29 = .ok (.aload_n 0, 1) := by decide +kernel
theorem d_Model_look_30 : decode og_c_Model_look 30 = .ok (.getfield 248, 3) := by decide +kernel
theorem d_Model_look_33 : decode og_c_Model_look 33 = .ok (.iaload, 1) := by decide +kernel
theorem d_Model_look_34 : decode og_c_Model_look 34 = .ok (.bipush 32, 2) := by decide +kernel
theorem d_Model_look_36 : decode og_c_Model_look 36 = .ok (.if_icmp .ne 16, 3) := by decide +kernel
theorem d_Model_look_39 : decode og_c_Model_look 39 = .ok (.aload_n 0, 1) := by decide +kernel
theorem d_Model_look_40 : decode og_c_Model_look 40 = .ok (.dup, 1) := by decide +kernel
theorem d_Model_look_41 : decode og_c_Model_look 41 = .ok (.getfield 248, 3) := by decide +kernel
theorem d_Model_look_44 : decode og_c_Model_look 44 = .ok (.iconst 1, 1) := by decide +kernel
theorem d_Model_look_45 : decode og_c_Model_look 45 = .ok (.iadd, 1) := by decide +kernel
theorem d_Model_look_46 : decode og_c_Model_look 46 = .ok (.putfield 248, 3) := by decide +kernel
theorem d_Model_look_49 : decode og_c_Model_look 49 = .ok (.goto (-49), 3) := by decide +kernel
theorem d_Model_look_52 : decode og_c_Model_look 52 = .ok (.aload_n 0, 1) := by decide +kernel
theorem d_Model_look_53 : decode og_c_Model_look 53 = .ok (.getfield 248, 3) := by decide +kernel
theorem d_Model_look_56 : decode og_c_Model_look 56 = .ok (.aload_n 0, 1) := by decide +kernel
theorem d_Model_look_57 : decode og_c_Model_look 57 = .ok (.getfield 251, 3) := by decide +kernel
theorem d_Model_look_60 : decode og_c_Model_look 60 = .ok (.if_icmp .ge 15, 3) := by decide +kernel
theorem d_Model_look_63 : decode og_c_Model_look 63 = .ok (.aload_n 0, 1) := by decide +kernel
theorem d_Model_look_64 : decode og_c_Model_look 64 = .ok (.getfield 7, 3) := by decide +kernel
theorem d_Model_look_67 : decode og_c_Model_look 67 = .ok (.aload_n 0, 1) := by decide +kernel
theorem d_Model_look_68 : decode og_c_Model_look 68 = .ok (.getfield 248, 3) := by decide +kernel
theorem d_Model_look_71 : decode og_c_Model_look 71 = .ok (.iaload, 1) := by decide +kernel
theorem d_Model_look_72 : decode og_c_Model_look 72 = .ok (.goto 4, 3) := by decide +kernel
theorem d_Model_look_75 : decode og_c_Model_look 75 = .ok (.iconst (-1), 1) := by decide +kernel
theorem d_Model_look_76 : decode og_c_Model_look 76 = .ok (.ireturn, 1) := by decide +kernel
def m_Model_look : og_Dn := og_den [17] 1 0 (og_cut (og_while (og_and (og_cc og_rlt (og_get 2 (og_loc 0)) (og_get 3 (og_loc 0))) (og_or (og_cc og_req (og_ald 1600 (og_fix (fun _ => 1001) (og_loc 0)) (og_get 2 (og_loc 0))) (og_k 10)) (og_cc og_req (og_ald 1600 (og_fix (fun _ => 1001) (og_loc 0)) (og_get 2 (og_loc 0))) (og_k 32)))) (og_pop32 og_padd 2 (og_loc 0) (og_k 1)) (og_skip)) (og_ret (og_ei (og_cc og_rlt (og_get 2 (og_loc 0)) (og_get 3 (og_loc 0))) (og_ald 1600 (og_fix (fun _ => 1001) (og_loc 0)) (og_get 2 (og_loc 0))) (og_k (-1)))))
set_option maxRecDepth 20000 in
theorem ok_Model_look : og_MOK og_y_Model_look og_c_Model_look 1 0 1 [17] m_Model_look := og_method (b := 0) (lt' := []) (by decide +kernel) (by decide) (by decide) (og_scut (og_swhile (T := 39) (F := 52) (cp0 := 0) (og_cand (og_ccn og_n_lt (og_ige (tgt := 52) (og_f_Model_at (og_aload_n (i := 0) (t := 15) (j := 0) (by rfl) (by rfl) d_Model_look_0) og_w1145 d_Model_look_1) (og_f_Model_end (og_aload_n (i := 0) (t := 15) (j := 0) (by rfl) (by rfl) d_Model_look_4) og_w1146 d_Model_look_5) d_Model_look_8 (by decide))) (og_cor (og_ieq (tgt := 39) (og_iald (N := 1600) (og_f_Model_tape (og_aload_n (i := 0) (t := 15) (j := 0) (by rfl) (by rfl) d_Model_look_11) og_w1143 d_Model_look_12) (by rfl) (og_f_Model_at (og_aload_n (i := 0) (t := 15) (j := 0) (by rfl) (by rfl) d_Model_look_15) og_w1145 d_Model_look_16) d_Model_look_19) (og_bipush (by decide) d_Model_look_20) d_Model_look_22 (by decide)) (og_ccn og_n_eq (og_ine (tgt := 52) (og_iald (N := 1600) (og_f_Model_tape (og_aload_n (i := 0) (t := 15) (j := 0) (by rfl) (by rfl) d_Model_look_25) og_w1143 d_Model_look_26) (by rfl) (og_f_Model_at (og_aload_n (i := 0) (t := 15) (j := 0) (by rfl) (by rfl) d_Model_look_29) og_w1145 d_Model_look_30) d_Model_look_33) (og_bipush (by decide) d_Model_look_34) d_Model_look_36 (by decide))))) (og_gS (b' := 0) (og_qadd_Model_at (og_aload_n (i := 0) (t := 15) (j := 0) (by rfl) (by rfl) d_Model_look_39) d_Model_look_40 d_Model_look_41 (og_iconst (by decide) d_Model_look_44) d_Model_look_45 og_w1145 d_Model_look_46) d_Model_look_49 (by decide)) (og_sskip)) (og_sreti (og_eite (og_ccn og_n_lt (og_ige (tgt := 75) (og_f_Model_at (og_aload_n (i := 0) (t := 15) (j := 0) (by rfl) (by rfl) d_Model_look_52) og_w1145 d_Model_look_53) (og_f_Model_end (og_aload_n (i := 0) (t := 15) (j := 0) (by rfl) (by rfl) d_Model_look_56) og_w1146 d_Model_look_57) d_Model_look_60 (by decide))) (og_iald (N := 1600) (og_f_Model_tape (og_aload_n (i := 0) (t := 15) (j := 0) (by rfl) (by rfl) d_Model_look_63) og_w1143 d_Model_look_64) (by rfl) (og_f_Model_at (og_aload_n (i := 0) (t := 15) (j := 0) (by rfl) (by rfl) d_Model_look_67) og_w1145 d_Model_look_68) d_Model_look_71) d_Model_look_72 (by decide) (og_iconst (by decide) d_Model_look_75)) d_Model_look_76)) (fun h => by cases h)
abbrev og_c_Model_isHere : ByteArray := prog_14_method_10_code
abbrev og_y_Model_isHere : MethodName := ⟨"OpenGravesModel", "isHere", "([C)Z"⟩
theorem v_Model_isHere {own : String} {idx dep : Nat} (h : 2 + 1 ≤ dep) : og_sV own idx og_y_Model_isHere og_c_Model_isHere 4 3 2 dep 13 1 := ⟨⟨12, og_sl_Model, og_T_Model, 102, rfl, by decide, rfl⟩, og_w1478, (og_memP (⟨"OpenGravesModel", "isHere", "([C)Z"⟩, 102) (List.mem_of_getElem? (i := 54) (by decide +kernel))), og_w17, og_w1479, ⟨by decide +kernel, by decide +kernel, by decide +kernel⟩, h, by decide⟩
theorem d_Model_isHere_0 : decode og_c_Model_isHere 0 = .ok (.aload_n 0, 1) := by decide +kernel
theorem d_Model_isHere_1 : decode og_c_Model_isHere 1 = .ok (.getfield 242, 3) := by decide +kernel
theorem d_Model_isHere_4 : decode og_c_Model_isHere 4 = .ok (.ifCond .ne 24, 3) := by decide +kernel
theorem d_Model_isHere_7 : decode og_c_Model_isHere 7 = .ok (.aload_n 0, 1) := by decide +kernel
theorem d_Model_isHere_8 : decode og_c_Model_isHere 8 = .ok (.invokevirtual 254, 3) := by decide +kernel
theorem d_Model_isHere_11 : decode og_c_Model_isHere 11 = .ok (.invokestatic 258, 3) := by decide +kernel
theorem d_Model_isHere_14 : decode og_c_Model_isHere 14 = .ok (.ifCond .eq 14, 3) := by decide +kernel
theorem d_Model_isHere_17 : decode og_c_Model_isHere 17 = .ok (.aload_n 0, 1) := by decide +kernel
theorem d_Model_isHere_18 : decode og_c_Model_isHere 18 = .ok (.getfield 248, 3) := by decide +kernel
theorem d_Model_isHere_21 : decode og_c_Model_isHere 21 = .ok (.aload_n 0, 1) := by decide +kernel
theorem d_Model_isHere_22 : decode og_c_Model_isHere 22 = .ok (.getfield 262, 3) := by decide +kernel
theorem d_Model_isHere_25 : decode og_c_Model_isHere 25 = .ok (.if_icmp .ne 5, 3) := by decide +kernel
theorem d_Model_isHere_28 : decode og_c_Model_isHere 28 = .ok (.iconst 0, 1) := by decide +kernel
theorem d_Model_isHere_29 : decode og_c_Model_isHere 29 = .ok (.ireturn, 1) := by decide +kernel
theorem d_Model_isHere_30 : decode og_c_Model_isHere 30 = .ok (.aload_n 0, 1) := by decide +kernel
theorem d_Model_isHere_31 : decode og_c_Model_isHere 31 = .ok (.getfield 248, 3) := by decide +kernel
theorem d_Model_isHere_34 : decode og_c_Model_isHere 34 = .ok (.istore_n 2, 1) := by decide +kernel
theorem d_Model_isHere_35 : decode og_c_Model_isHere 35 = .ok (.iload_n 2, 1) := by decide +kernel
theorem d_Model_isHere_36 : decode og_c_Model_isHere 36 = .ok (.aload_n 0, 1) := by decide +kernel
theorem d_Model_isHere_37 : decode og_c_Model_isHere 37 = .ok (.getfield 251, 3) := by decide +kernel
theorem d_Model_isHere_40 : decode og_c_Model_isHere 40 = .ok (.if_icmp .ge 21, 3) := by decide +kernel
theorem d_Model_isHere_43 : decode og_c_Model_isHere 43 = .ok (.aload_n 0, 1) := by decide +kernel
theorem d_Model_isHere_44 : decode og_c_Model_isHere 44 = .ok (.getfield 7, 3) := by decide +kernel
theorem d_Model_isHere_47 : decode og_c_Model_isHere 47 = .ok (.iload_n 2, 1) := by decide +kernel
theorem d_Model_isHere_48 : decode og_c_Model_isHere 48 = .ok (.iaload, 1) := by decide +kernel
theorem d_Model_isHere_49 : decode og_c_Model_isHere 49 = .ok (.invokestatic 258, 3) := by decide +kernel
theorem d_Model_isHere_52 : decode og_c_Model_isHere 52 = .ok (.ifCond .eq 9, 3) := by decide +kernel
theorem d_Model_isHere_55 : decode og_c_Model_isHere 55 = .ok (.iinc 2 1, 3) := by decide +kernel
theorem d_Model_isHere_58 : decode og_c_Model_isHere 58 = .ok (.goto (-23), 3) := by decide +kernel
theorem d_Model_isHere_61 : decode og_c_Model_isHere 61 = .ok (.iload_n 2, 1) := by decide +kernel
theorem d_Model_isHere_62 : decode og_c_Model_isHere 62 = .ok (.aload_n 0, 1) := by decide +kernel
theorem d_Model_isHere_63 : decode og_c_Model_isHere 63 = .ok (.getfield 248, 3) := by decide +kernel
theorem d_Model_isHere_66 : decode og_c_Model_isHere 66 = .ok (.isub, 1) := by decide +kernel
theorem d_Model_isHere_67 : decode og_c_Model_isHere 67 = .ok (.aload_n 1, 1) := by decide +kernel
theorem d_Model_isHere_68 : decode og_c_Model_isHere 68 = .ok (.arraylength, 1) := by decide +kernel
theorem d_Model_isHere_69 : decode og_c_Model_isHere 69 = .ok (.if_icmp .eq 5, 3) := by decide +kernel
theorem d_Model_isHere_72 : decode og_c_Model_isHere 72 = .ok (.iconst 0, 1) := by decide +kernel
theorem d_Model_isHere_73 : decode og_c_Model_isHere 73 = .ok (.ireturn, 1) := by decide +kernel
theorem d_Model_isHere_74 : decode og_c_Model_isHere 74 = .ok (.iconst 0, 1) := by decide +kernel
theorem d_Model_isHere_75 : decode og_c_Model_isHere 75 = .ok (.istore_n 3, 1) := by decide +kernel
theorem d_Model_isHere_76 : decode og_c_Model_isHere 76 = .ok (.iload_n 3, 1) := by decide +kernel
theorem d_Model_isHere_77 : decode og_c_Model_isHere 77 = .ok (.aload_n 1, 1) := by decide +kernel
theorem d_Model_isHere_78 : decode og_c_Model_isHere 78 = .ok (.arraylength, 1) := by decide +kernel
theorem d_Model_isHere_79 : decode og_c_Model_isHere 79 = .ok (.if_icmp .ge 28, 3) := by decide +kernel
theorem d_Model_isHere_82 : decode og_c_Model_isHere 82 = .ok (.aload_n 0, 1) := by decide +kernel
theorem d_Model_isHere_83 : decode og_c_Model_isHere 83 = .ok (.getfield 7, 3) := by decide +kernel
theorem d_Model_isHere_86 : decode og_c_Model_isHere 86 = .ok (.aload_n 0, 1) := by decide +kernel
theorem d_Model_isHere_87 : decode og_c_Model_isHere 87 = .ok (.getfield 248, 3) := by decide +kernel
theorem d_Model_isHere_90 : decode og_c_Model_isHere 90 = .ok (.iload_n 3, 1) := by decide +kernel
theorem d_Model_isHere_91 : decode og_c_Model_isHere 91 = .ok (.iadd, 1) := by decide +kernel
theorem d_Model_isHere_92 : decode og_c_Model_isHere 92 = .ok (.iaload, 1) := by decide +kernel
theorem d_Model_isHere_93 : decode og_c_Model_isHere 93 = .ok (.aload_n 1, 1) := by decide +kernel
theorem d_Model_isHere_94 : decode og_c_Model_isHere 94 = .ok (.iload_n 3, 1) := by decide +kernel
theorem d_Model_isHere_95 : decode og_c_Model_isHere 95 = .ok (.caload, 1) := by decide +kernel
theorem d_Model_isHere_96 : decode og_c_Model_isHere 96 = .ok (.if_icmp .eq 5, 3) := by decide +kernel
theorem d_Model_isHere_99 : decode og_c_Model_isHere 99 = .ok (.iconst 0, 1) := by decide +kernel
theorem d_Model_isHere_100 : decode og_c_Model_isHere 100 = .ok (.ireturn, 1) := by decide +kernel
theorem d_Model_isHere_101 : decode og_c_Model_isHere 101 = .ok (.iinc 3 1, 3) := by decide +kernel
theorem d_Model_isHere_104 : decode og_c_Model_isHere 104 = .ok (.goto (-28), 3) := by decide +kernel
theorem d_Model_isHere_107 : decode og_c_Model_isHere 107 = .ok (.iconst 1, 1) := by decide +kernel
theorem d_Model_isHere_108 : decode og_c_Model_isHere 108 = .ok (.ireturn, 1) := by decide +kernel
def m_Model_isHere : og_Dn := og_den [17, 3] 4 3 (og_seq (og_if (og_or (og_or (og_cc og_rne (og_get 5 (og_loc 0)) (og_k 0)) (og_not (og_cb (og_call m_Model_isLetter [og_call m_Model_look [og_loc 0]])))) (og_cc og_req (og_get 2 (og_loc 0)) (og_get 4 (og_loc 0)))) (og_retz (og_k 0)) (og_skip)) (og_seq (og_set 2 (og_get 2 (og_loc 0))) (og_cut (og_while (og_and (og_cc og_rlt (og_loc 2) (og_get 3 (og_loc 0))) (og_cb (og_call m_Model_isLetter [og_ald 1600 (og_fix (fun _ => 1001) (og_loc 0)) (og_loc 2)]))) (og_inc 2 1) (og_skip)) (og_seq (og_if (og_cc og_rne (og_sub (og_loc 2) (og_get 2 (og_loc 0))) (og_gln (og_loc 1))) (og_retz (og_k 0)) (og_skip)) (og_cut (og_seq (og_set 3 (og_k 0)) (og_while (og_cc og_rlt (og_loc 3) (og_gln (og_loc 1))) (og_if (og_cc og_rne (og_ald 1600 (og_fix (fun _ => 1001) (og_loc 0)) (og_add (og_get 2 (og_loc 0)) (og_loc 3))) (og_gld (og_loc 1) (og_loc 3))) (og_retz (og_k 0)) (og_skip)) (og_inc 3 1))) (og_retz (og_k 1)))))))
set_option maxRecDepth 20000 in
theorem ok_Model_isHere : og_MOK og_y_Model_isHere og_c_Model_isHere 4 3 2 [17, 3] m_Model_isHere := og_method (b := 0) (lt' := []) (by decide +kernel) (by decide) (by decide) (og_sseq (og_sif (T := 28) (F := 30) (og_cor (og_cor (og_zne (tgt := 28) (og_f_Model_bad (og_aload_n (i := 0) (t := 15) (j := 0) (by rfl) (by rfl) d_Model_isHere_0) og_w1148 d_Model_isHere_1) d_Model_isHere_4 (by decide)) (og_cnot (og_cbeq (tgt := 28) (og_callSz (og_acons (og_callVi (og_acons (og_aload_n (i := 0) (t := 15) (j := 0) (by rfl) (by rfl) d_Model_isHere_7) (og_anil)) (by decide) ok_Model_look (v_Model_look (by decide)) og_w1464 d_Model_isHere_8) (og_anil)) (by decide) ok_Model_isLetter (v_Model_isLetter (by decide)) og_w1480 d_Model_isHere_11) d_Model_isHere_14 (by decide)))) (og_ccn og_n_eq (og_ine (tgt := 30) (og_f_Model_at (og_aload_n (i := 0) (t := 15) (j := 0) (by rfl) (by rfl) d_Model_isHere_17) og_w1145 d_Model_isHere_18) (og_f_Model_ended (og_aload_n (i := 0) (t := 15) (j := 0) (by rfl) (by rfl) d_Model_isHere_21) og_w1147 d_Model_isHere_22) d_Model_isHere_25 (by decide)))) (og_sretz (og_iconst (by decide) d_Model_isHere_28) d_Model_isHere_29) (og_sskip)) (og_sseq (og_istore_n (i := 2) (lt' := [(0, 17), (1, 3), (2, 0)]) (og_f_Model_at (og_aload_n (i := 0) (t := 15) (j := 0) (by rfl) (by rfl) d_Model_isHere_30) og_w1145 d_Model_isHere_31) (by rfl) (by decide) (by decide) d_Model_isHere_34) (og_scut (og_swhile (T := 55) (F := 61) (cp0 := 35) (og_cand (og_ccn og_n_lt (og_ige (tgt := 61) (og_iload_n (i := 2) (j := 2) (by rfl) (by rfl) d_Model_isHere_35) (og_f_Model_end (og_aload_n (i := 0) (t := 15) (j := 0) (by rfl) (by rfl) d_Model_isHere_36) og_w1146 d_Model_isHere_37) d_Model_isHere_40 (by decide))) (og_cbeq (tgt := 61) (og_callSz (og_acons (og_iald (N := 1600) (og_f_Model_tape (og_aload_n (i := 0) (t := 15) (j := 0) (by rfl) (by rfl) d_Model_isHere_43) og_w1143 d_Model_isHere_44) (by rfl) (og_iload_n (i := 2) (j := 2) (by rfl) (by rfl) d_Model_isHere_47) d_Model_isHere_48) (og_anil)) (by decide) ok_Model_isLetter (v_Model_isLetter (by decide)) og_w1480 d_Model_isHere_49) d_Model_isHere_52 (by decide))) (og_gS (b' := 35) (og_iinc (j := 2) (lt' := [(0, 17), (1, 3), (2, 0)]) (by rfl) (by decide) (by decide) d_Model_isHere_55) d_Model_isHere_58 (by decide)) (og_sskip)) (og_sseq (og_sif (T := 72) (F := 74) (og_ccn og_n_ne (og_ieq (tgt := 74) (og_isub (og_iload_n (i := 2) (j := 2) (by rfl) (by rfl) d_Model_isHere_61) (og_f_Model_at (og_aload_n (i := 0) (t := 15) (j := 0) (by rfl) (by rfl) d_Model_isHere_62) og_w1145 d_Model_isHere_63) d_Model_isHere_66) (og_gclen (og_aload_n (i := 1) (t := 1) (j := 1) (by rfl) (by rfl) d_Model_isHere_67) d_Model_isHere_68) d_Model_isHere_69 (by decide))) (og_sretz (og_iconst (by decide) d_Model_isHere_72) d_Model_isHere_73) (og_sskip)) (og_scut (og_sdrop (lt' := [(0, 17), (1, 3), (2, 0), (3, 0)]) (lt2 := [(0, 17), (1, 3), (2, 0)]) (og_sseq (og_istore_n (i := 3) (lt' := [(0, 17), (1, 3), (2, 0), (3, 0)]) (og_iconst (by decide) d_Model_isHere_74) (by rfl) (by decide) (by decide) d_Model_isHere_75) (og_swhile (T := 82) (F := 107) (cp0 := 101) (og_ccn og_n_lt (og_ige (tgt := 107) (og_iload_n (i := 3) (j := 3) (by rfl) (by rfl) d_Model_isHere_76) (og_gclen (og_aload_n (i := 1) (t := 1) (j := 1) (by rfl) (by rfl) d_Model_isHere_77) d_Model_isHere_78) d_Model_isHere_79 (by decide))) (og_sif (T := 99) (F := 101) (og_ccn og_n_ne (og_ieq (tgt := 101) (og_iald (N := 1600) (og_f_Model_tape (og_aload_n (i := 0) (t := 15) (j := 0) (by rfl) (by rfl) d_Model_isHere_82) og_w1143 d_Model_isHere_83) (by rfl) (og_iadd (og_f_Model_at (og_aload_n (i := 0) (t := 15) (j := 0) (by rfl) (by rfl) d_Model_isHere_86) og_w1145 d_Model_isHere_87) (og_iload_n (i := 3) (j := 3) (by rfl) (by rfl) d_Model_isHere_90) d_Model_isHere_91) d_Model_isHere_92) (og_gcald (og_aload_n (i := 1) (t := 1) (j := 1) (by rfl) (by rfl) d_Model_isHere_93) (og_iload_n (i := 3) (j := 3) (by rfl) (by rfl) d_Model_isHere_94) d_Model_isHere_95) d_Model_isHere_96 (by decide))) (og_sretz (og_iconst (by decide) d_Model_isHere_99) d_Model_isHere_100) (og_sskip)) (og_gS (b' := 76) (og_iinc (j := 3) (lt' := [(0, 17), (1, 3), (2, 0), (3, 0)]) (by rfl) (by decide) (by decide) d_Model_isHere_101) d_Model_isHere_104 (by decide)))) (by decide)) (og_sretz (og_iconst (by decide) d_Model_isHere_107) d_Model_isHere_108)))))) (fun h => by cases h)
abbrev og_c_Model_takes : ByteArray := prog_14_method_11_code
abbrev og_y_Model_takes : MethodName := ⟨"OpenGravesModel", "takes", "([C)Z"⟩
theorem v_Model_takes {own : String} {idx dep : Nat} (h : 3 + 1 ≤ dep) : og_sV own idx og_y_Model_takes og_c_Model_takes 2 3 3 dep 13 1 := ⟨⟨12, og_sl_Model, og_T_Model, 102, rfl, by decide, rfl⟩, og_w1474, (og_memP (⟨"OpenGravesModel", "takes", "([C)Z"⟩, 102) (List.mem_of_getElem? (i := 53) (by decide +kernel))), og_w17, og_w1475, ⟨by decide +kernel, by decide +kernel, by decide +kernel⟩, h, by decide⟩
theorem d_Model_takes_0 : decode og_c_Model_takes 0 = .ok (.aload_n 0, 1) := by decide +kernel
theorem d_Model_takes_1 : decode og_c_Model_takes 1 = .ok (.aload_n 1, 1) := by decide +kernel
theorem d_Model_takes_2 : decode og_c_Model_takes 2 = .ok (.invokevirtual 265, 3) := by decide +kernel
theorem d_Model_takes_5 : decode og_c_Model_takes 5 = .ok (.ifCond .ne 5, 3) := by decide +kernel
theorem d_Model_takes_8 : decode og_c_Model_takes 8 = .ok (.iconst 0, 1) := by decide +kernel
theorem d_Model_takes_9 : decode og_c_Model_takes 9 = .ok (.ireturn, 1) := by decide +kernel
theorem d_Model_takes_10 : decode og_c_Model_takes 10 = .ok (.aload_n 0, 1) := by decide +kernel
theorem d_Model_takes_11 : decode og_c_Model_takes 11 = .ok (.dup, 1) := by decide +kernel
theorem d_Model_takes_12 : decode og_c_Model_takes 12 = .ok (.getfield 248, 3) := by decide +kernel
theorem d_Model_takes_15 : decode og_c_Model_takes 15 = .ok (.aload_n 1, 1) := by decide +kernel
theorem d_Model_takes_16 : decode og_c_Model_takes 16 = .ok (.arraylength, 1) := by decide +kernel
theorem d_Model_takes_17 : decode og_c_Model_takes 17 = .ok (.iadd, 1) := by decide +kernel
theorem d_Model_takes_18 : decode og_c_Model_takes 18 = .ok (.putfield 248, 3) := by decide +kernel
theorem d_Model_takes_21 : decode og_c_Model_takes 21 = .ok (.aload_n 0, 1) := by decide +kernel
theorem d_Model_takes_22 : decode og_c_Model_takes 22 = .ok (.aload_n 0, 1) := by decide +kernel
theorem d_Model_takes_23 : decode og_c_Model_takes 23 = .ok (.getfield 248, 3) := by decide +kernel
theorem d_Model_takes_26 : decode og_c_Model_takes 26 = .ok (.putfield 262, 3) := by decide +kernel
theorem d_Model_takes_29 : decode og_c_Model_takes 29 = .ok (.iconst 1, 1) := by decide +kernel
theorem d_Model_takes_30 : decode og_c_Model_takes 30 = .ok (.ireturn, 1) := by decide +kernel
def m_Model_takes : og_Dn := og_den [17, 3] 2 3 (og_seq (og_if (og_not (og_cb (og_call m_Model_isHere [og_loc 0, og_loc 1]))) (og_retz (og_k 0)) (og_skip)) (og_seq (og_pop32 og_padd 2 (og_loc 0) (og_gln (og_loc 1))) (og_seq (og_putf 4 (og_loc 0) (og_get 2 (og_loc 0))) (og_retz (og_k 1)))))
set_option maxRecDepth 20000 in
theorem ok_Model_takes : og_MOK og_y_Model_takes og_c_Model_takes 2 3 3 [17, 3] m_Model_takes := og_method (b := 0) (lt' := []) (by decide +kernel) (by decide) (by decide) (og_sseq (og_sif (T := 8) (F := 10) (og_cnot (og_cbne (tgt := 10) (og_callVz (og_acons (og_aload_n (i := 0) (t := 15) (j := 0) (by rfl) (by rfl) d_Model_takes_0) (og_acons (og_aload_n (i := 1) (t := 1) (j := 1) (by rfl) (by rfl) d_Model_takes_1) (og_anil))) (by decide) ok_Model_isHere (v_Model_isHere (by decide)) og_w1476 d_Model_takes_2) d_Model_takes_5 (by decide))) (og_sretz (og_iconst (by decide) d_Model_takes_8) d_Model_takes_9) (og_sskip)) (og_sseq (og_qadd_Model_at (og_aload_n (i := 0) (t := 15) (j := 0) (by rfl) (by rfl) d_Model_takes_10) d_Model_takes_11 d_Model_takes_12 (og_gclen (og_aload_n (i := 1) (t := 1) (j := 1) (by rfl) (by rfl) d_Model_takes_15) d_Model_takes_16) d_Model_takes_17 og_w1145 d_Model_takes_18) (og_sseq (og_p_Model_ended (og_aload_n (i := 0) (t := 15) (j := 0) (by rfl) (by rfl) d_Model_takes_21) (og_f_Model_at (og_aload_n (i := 0) (t := 15) (j := 0) (by rfl) (by rfl) d_Model_takes_22) og_w1145 d_Model_takes_23) og_w1147 d_Model_takes_26) (og_sretz (og_iconst (by decide) d_Model_takes_29) d_Model_takes_30)))) (fun h => by cases h)
abbrev og_c_Model_asks : ByteArray := prog_14_method_12_code
abbrev og_y_Model_asks : MethodName := ⟨"OpenGravesModel", "asks", "([C)V"⟩
theorem v_Model_asks {own : String} {idx dep : Nat} (h : 4 + 1 ≤ dep) : og_sV own idx og_y_Model_asks og_c_Model_asks 2 2 4 dep 13 1 := ⟨⟨12, og_sl_Model, og_T_Model, 102, rfl, by decide, rfl⟩, og_w1511, (og_memP (⟨"OpenGravesModel", "asks", "([C)V"⟩, 102) (List.mem_of_getElem? (i := 61) (by decide +kernel))), og_w17, og_w1512, ⟨by decide +kernel, by decide +kernel, by decide +kernel⟩, h, by decide⟩
theorem d_Model_asks_0 : decode og_c_Model_asks 0 = .ok (.aload_n 0, 1) := by decide +kernel
theorem d_Model_asks_1 : decode og_c_Model_asks 1 = .ok (.getfield 242, 3) := by decide +kernel
theorem d_Model_asks_4 : decode og_c_Model_asks 4 = .ok (.ifCond .ne 20, 3) := by decide +kernel
theorem d_Model_asks_7 : decode og_c_Model_asks 7 = .ok (.aload_n 0, 1) := by decide +kernel
theorem d_Model_asks_8 : decode og_c_Model_asks 8 = .ok (.aload_n 1, 1) := by decide +kernel
theorem d_Model_asks_9 : decode og_c_Model_asks 9 = .ok (.invokevirtual 269, 3) := by decide +kernel
theorem d_Model_asks_12 : decode og_c_Model_asks 12 = .ok (.ifCond .ne 12, 3) := by decide +kernel
theorem d_Model_asks_15 : decode og_c_Model_asks 15 = .ok (.aload_n 0, 1) := by decide +kernel
theorem d_Model_asks_16 : decode og_c_Model_asks 16 = .ok (.iconst 1, 1) := by decide +kernel
theorem d_Model_asks_17 : decode og_c_Model_asks 17 = .ok (.aload_n 0, 1) := by decide +kernel
theorem d_Model_asks_18 : decode og_c_Model_asks 18 = .ok (.getfield 248, 3) := by decide +kernel
theorem d_Model_asks_21 : decode og_c_Model_asks 21 = .ok (.invokevirtual 272, 3) := by decide +kernel
theorem d_Model_asks_24 : decode og_c_Model_asks 24 = .ok (.return_, 1) := by decide +kernel
def m_Model_asks : og_Dn := og_den [17, 3] 2 2 (og_if (og_and (og_cc og_req (og_get 5 (og_loc 0)) (og_k 0)) (og_not (og_cb (og_call m_Model_takes [og_loc 0, og_loc 1])))) (og_exp (og_call m_Model_fail [og_loc 0, og_k 1, og_get 2 (og_loc 0)])) (og_skip))
set_option maxRecDepth 20000 in
theorem ok_Model_asks : og_MOK og_y_Model_asks og_c_Model_asks 2 2 4 [17, 3] m_Model_asks := og_method (b := 24) (lt' := [(0, 17), (1, 3)]) (by decide +kernel) (by decide) (by decide) (og_sif (T := 15) (F := 24) (og_cand (og_ccn og_n_eq (og_zne (tgt := 24) (og_f_Model_bad (og_aload_n (i := 0) (t := 15) (j := 0) (by rfl) (by rfl) d_Model_asks_0) og_w1148 d_Model_asks_1) d_Model_asks_4 (by decide))) (og_cnot (og_cbne (tgt := 24) (og_callVz (og_acons (og_aload_n (i := 0) (t := 15) (j := 0) (by rfl) (by rfl) d_Model_asks_7) (og_acons (og_aload_n (i := 1) (t := 1) (j := 1) (by rfl) (by rfl) d_Model_asks_8) (og_anil))) (by decide) ok_Model_takes (v_Model_takes (by decide)) og_w1472 d_Model_asks_9) d_Model_asks_12 (by decide)))) (og_callVv (og_acons (og_aload_n (i := 0) (t := 15) (j := 0) (by rfl) (by rfl) d_Model_asks_15) (og_acons (og_iconst (by decide) d_Model_asks_16) (og_acons (og_f_Model_at (og_aload_n (i := 0) (t := 15) (j := 0) (by rfl) (by rfl) d_Model_asks_17) og_w1145 d_Model_asks_18) (og_anil)))) ok_Model_fail (v_Model_fail (by decide)) og_w1491 d_Model_asks_21) (og_sskip)) (fun _ => d_Model_asks_24)
abbrev og_c_Model_takesSign : ByteArray := prog_14_method_13_code
abbrev og_y_Model_takesSign : MethodName := ⟨"OpenGravesModel", "takesSign", "(I)Z"⟩
theorem v_Model_takesSign {own : String} {idx dep : Nat} (h : 2 + 1 ≤ dep) : og_sV own idx og_y_Model_takesSign og_c_Model_takesSign 2 3 2 dep 13 1 := ⟨⟨12, og_sl_Model, og_T_Model, 102, rfl, by decide, rfl⟩, og_w1576, (og_memP (⟨"OpenGravesModel", "takesSign", "(I)Z"⟩, 102) (List.mem_of_getElem? (i := 75) (by decide +kernel))), og_w17, og_w1577, ⟨by decide +kernel, by decide +kernel, by decide +kernel⟩, h, by decide⟩
theorem d_Model_takesSign_0 : decode og_c_Model_takesSign 0 = .ok (.aload_n 0, 1) := by decide +kernel
theorem d_Model_takesSign_1 : decode og_c_Model_takesSign 1 = .ok (.getfield 242, 3) := by decide +kernel
theorem d_Model_takesSign_4 : decode og_c_Model_takesSign 4 = .ok (.ifCond .ne 11, 3) := by decide +kernel
theorem d_Model_takesSign_7 : decode og_c_Model_takesSign 7 = .ok (.aload_n 0, 1) := by decide +kernel
theorem d_Model_takesSign_8 : decode og_c_Model_takesSign 8 = .ok (.invokevirtual 254, 3) := by decide +kernel
theorem d_Model_takesSign_11 : decode og_c_Model_takesSign 11 = .ok (.iload_n 1, 1) := by decide +kernel
theorem d_Model_takesSign_12 : decode og_c_Model_takesSign 12 = .ok (.if_icmp .eq 5, 3) := by decide +kernel
theorem d_Model_takesSign_15 : decode og_c_Model_takesSign 15 = .ok (.iconst 0, 1) := by decide +kernel
theorem d_Model_takesSign_16 : decode og_c_Model_takesSign 16 = .ok (.ireturn, 1) := by decide +kernel
theorem d_Model_takesSign_17 : decode og_c_Model_takesSign 17 = .ok (.aload_n 0, 1) := by decide +kernel
theorem d_Model_takesSign_18 : decode og_c_Model_takesSign 18 = .ok (.dup, 1) := by decide +kernel
theorem d_Model_takesSign_19 : decode og_c_Model_takesSign 19 = .ok (.getfield 248, 3) := by decide +kernel
theorem d_Model_takesSign_22 : decode og_c_Model_takesSign 22 = .ok (.iconst 1, 1) := by decide +kernel
theorem d_Model_takesSign_23 : decode og_c_Model_takesSign 23 = .ok (.iadd, 1) := by decide +kernel
theorem d_Model_takesSign_24 : decode og_c_Model_takesSign 24 = .ok (.putfield 248, 3) := by decide +kernel
theorem d_Model_takesSign_27 : decode og_c_Model_takesSign 27 = .ok (.iconst 1, 1) := by decide +kernel
theorem d_Model_takesSign_28 : decode og_c_Model_takesSign 28 = .ok (.ireturn, 1) := by decide +kernel
def m_Model_takesSign : og_Dn := og_den [17, 0] 2 3 (og_seq (og_if (og_or (og_cc og_rne (og_get 5 (og_loc 0)) (og_k 0)) (og_cc og_rne (og_call m_Model_look [og_loc 0]) (og_loc 1))) (og_retz (og_k 0)) (og_skip)) (og_seq (og_pop32 og_padd 2 (og_loc 0) (og_k 1)) (og_retz (og_k 1))))
set_option maxRecDepth 20000 in
theorem ok_Model_takesSign : og_MOK og_y_Model_takesSign og_c_Model_takesSign 2 3 2 [17, 0] m_Model_takesSign := og_method (b := 0) (lt' := []) (by decide +kernel) (by decide) (by decide) (og_sseq (og_sif (T := 15) (F := 17) (og_cor (og_zne (tgt := 15) (og_f_Model_bad (og_aload_n (i := 0) (t := 15) (j := 0) (by rfl) (by rfl) d_Model_takesSign_0) og_w1148 d_Model_takesSign_1) d_Model_takesSign_4 (by decide)) (og_ccn og_n_ne (og_ieq (tgt := 17) (og_callVi (og_acons (og_aload_n (i := 0) (t := 15) (j := 0) (by rfl) (by rfl) d_Model_takesSign_7) (og_anil)) (by decide) ok_Model_look (v_Model_look (by decide)) og_w1464 d_Model_takesSign_8) (og_iload_n (i := 1) (j := 1) (by rfl) (by rfl) d_Model_takesSign_11) d_Model_takesSign_12 (by decide)))) (og_sretz (og_iconst (by decide) d_Model_takesSign_15) d_Model_takesSign_16) (og_sskip)) (og_sseq (og_qadd_Model_at (og_aload_n (i := 0) (t := 15) (j := 0) (by rfl) (by rfl) d_Model_takesSign_17) d_Model_takesSign_18 d_Model_takesSign_19 (og_iconst (by decide) d_Model_takesSign_22) d_Model_takesSign_23 og_w1145 d_Model_takesSign_24) (og_sretz (og_iconst (by decide) d_Model_takesSign_27) d_Model_takesSign_28))) (fun h => by cases h)
abbrev og_c_Model_asksSign : ByteArray := prog_14_method_14_code
abbrev og_y_Model_asksSign : MethodName := ⟨"OpenGravesModel", "asksSign", "(I)V"⟩
theorem v_Model_asksSign {own : String} {idx dep : Nat} (h : 3 + 1 ≤ dep) : og_sV own idx og_y_Model_asksSign og_c_Model_asksSign 2 2 3 dep 13 1 := ⟨⟨12, og_sl_Model, og_T_Model, 102, rfl, by decide, rfl⟩, og_w1572, (og_memP (⟨"OpenGravesModel", "asksSign", "(I)V"⟩, 102) (List.mem_of_getElem? (i := 74) (by decide +kernel))), og_w17, og_w1573, ⟨by decide +kernel, by decide +kernel, by decide +kernel⟩, h, by decide⟩
theorem d_Model_asksSign_0 : decode og_c_Model_asksSign 0 = .ok (.aload_n 0, 1) := by decide +kernel
theorem d_Model_asksSign_1 : decode og_c_Model_asksSign 1 = .ok (.getfield 242, 3) := by decide +kernel
theorem d_Model_asksSign_4 : decode og_c_Model_asksSign 4 = .ok (.ifCond .ne 20, 3) := by decide +kernel
theorem d_Model_asksSign_7 : decode og_c_Model_asksSign 7 = .ok (.aload_n 0, 1) := by decide +kernel
theorem d_Model_asksSign_8 : decode og_c_Model_asksSign 8 = .ok (.iload_n 1, 1) := by decide +kernel
theorem d_Model_asksSign_9 : decode og_c_Model_asksSign 9 = .ok (.invokevirtual 276, 3) := by decide +kernel
theorem d_Model_asksSign_12 : decode og_c_Model_asksSign 12 = .ok (.ifCond .ne 12, 3) := by decide +kernel
theorem d_Model_asksSign_15 : decode og_c_Model_asksSign 15 = .ok (.aload_n 0, 1) := by decide +kernel
theorem d_Model_asksSign_16 : decode og_c_Model_asksSign 16 = .ok (.iconst 1, 1) := by decide +kernel
theorem d_Model_asksSign_17 : decode og_c_Model_asksSign 17 = .ok (.aload_n 0, 1) := by decide +kernel
theorem d_Model_asksSign_18 : decode og_c_Model_asksSign 18 = .ok (.getfield 248, 3) := by decide +kernel
theorem d_Model_asksSign_21 : decode og_c_Model_asksSign 21 = .ok (.invokevirtual 272, 3) := by decide +kernel
theorem d_Model_asksSign_24 : decode og_c_Model_asksSign 24 = .ok (.return_, 1) := by decide +kernel
def m_Model_asksSign : og_Dn := og_den [17, 0] 2 2 (og_if (og_and (og_cc og_req (og_get 5 (og_loc 0)) (og_k 0)) (og_not (og_cb (og_call m_Model_takesSign [og_loc 0, og_loc 1])))) (og_exp (og_call m_Model_fail [og_loc 0, og_k 1, og_get 2 (og_loc 0)])) (og_skip))
set_option maxRecDepth 20000 in
theorem ok_Model_asksSign : og_MOK og_y_Model_asksSign og_c_Model_asksSign 2 2 3 [17, 0] m_Model_asksSign := og_method (b := 24) (lt' := [(0, 17), (1, 0)]) (by decide +kernel) (by decide) (by decide) (og_sif (T := 15) (F := 24) (og_cand (og_ccn og_n_eq (og_zne (tgt := 24) (og_f_Model_bad (og_aload_n (i := 0) (t := 15) (j := 0) (by rfl) (by rfl) d_Model_asksSign_0) og_w1148 d_Model_asksSign_1) d_Model_asksSign_4 (by decide))) (og_cnot (og_cbne (tgt := 24) (og_callVz (og_acons (og_aload_n (i := 0) (t := 15) (j := 0) (by rfl) (by rfl) d_Model_asksSign_7) (og_acons (og_iload_n (i := 1) (j := 1) (by rfl) (by rfl) d_Model_asksSign_8) (og_anil))) (by decide) ok_Model_takesSign (v_Model_takesSign (by decide)) og_w1574 d_Model_asksSign_9) d_Model_asksSign_12 (by decide)))) (og_callVv (og_acons (og_aload_n (i := 0) (t := 15) (j := 0) (by rfl) (by rfl) d_Model_asksSign_15) (og_acons (og_iconst (by decide) d_Model_asksSign_16) (og_acons (og_f_Model_at (og_aload_n (i := 0) (t := 15) (j := 0) (by rfl) (by rfl) d_Model_asksSign_17) og_w1145 d_Model_asksSign_18) (og_anil)))) ok_Model_fail (v_Model_fail (by decide)) og_w1491 d_Model_asksSign_21) (og_sskip)) (fun _ => d_Model_asksSign_24)
abbrev og_c_Model_number : ByteArray := prog_14_method_15_code
abbrev og_y_Model_number : MethodName := ⟨"OpenGravesModel", "number", "(II)I"⟩
theorem v_Model_number {own : String} {idx dep : Nat} (h : 2 + 1 ≤ dep) : og_sV own idx og_y_Model_number og_c_Model_number 5 0 2 dep 13 2 := ⟨⟨12, og_sl_Model, og_T_Model, 102, rfl, by decide, rfl⟩, og_w1515, (og_memP (⟨"OpenGravesModel", "number", "(II)I"⟩, 102) (List.mem_of_getElem? (i := 62) (by decide +kernel))), og_w17, og_w1516, ⟨by decide +kernel, by decide +kernel, by decide +kernel⟩, h, by decide⟩
theorem d_Model_number_0 : decode og_c_Model_number 0 = .ok (.aload_n 0, 1) := by decide +kernel
theorem d_Model_number_1 : decode og_c_Model_number 1 = .ok (.getfield 242, 3) := by decide +kernel
theorem d_Model_number_4 : decode og_c_Model_number 4 = .ok (.ifCond .eq 5, 3) := by decide +kernel
theorem d_Model_number_7 : decode og_c_Model_number 7 = .ok (.iconst 0, 1) := by decide +kernel
theorem d_Model_number_8 : decode og_c_Model_number 8 = .ok (.ireturn, 1) := by decide +kernel
theorem d_Model_number_9 : decode og_c_Model_number 9 = .ok (.aload_n 0, 1) := by decide +kernel
theorem d_Model_number_10 : decode og_c_Model_number 10 = .ok (.invokevirtual 254, 3) := by decide +kernel
theorem d_Model_number_13 : decode og_c_Model_number 13 = .ok (.invokestatic 279, 3) := by decide +kernel
theorem d_Model_number_16 : decode og_c_Model_number 16 = .ok (.ifCond .eq 14, 3) := by decide +kernel
theorem d_Model_number_19 : decode og_c_Model_number 19 = .ok (.aload_n 0, 1) := by decide +kernel
theorem d_Model_number_20 : decode og_c_Model_number 20 = .ok (.getfield 248, 3) := by decide +kernel
theorem d_Model_number_23 : decode og_c_Model_number 23 = .ok (.aload_n 0, 1) := by decide +kernel
theorem d_Model_number_24 : decode og_c_Model_number 24 = .ok (.getfield 262, 3) := by decide +kernel
theorem d_Model_number_27 : decode og_c_Model_number 27 = .ok (.if_icmp .ne 14, 3) := by decide +kernel
theorem d_Model_number_30 : decode og_c_Model_number 30 = .ok (.aload_n 0, 1) := by decide +kernel
theorem d_Model_number_31 : decode og_c_Model_number 31 = .ok (.iconst 1, 1) := by decide +kernel
theorem d_Model_number_32 : decode og_c_Model_number 32 = .ok (.aload_n 0, 1) := by decide +kernel
theorem d_Model_number_33 : decode og_c_Model_number 33 = .ok (.getfield 248, 3) := by decide +kernel
theorem d_Model_number_36 : decode og_c_Model_number 36 = .ok (.invokevirtual 272, 3) := by decide +kernel
theorem d_Model_number_39 : decode og_c_Model_number 39 = .ok (.iconst 0, 1) := by decide +kernel
theorem d_Model_number_40 : decode og_c_Model_number 40 = .ok (.ireturn, 1) := by decide +kernel
theorem d_Model_number_41 : decode og_c_Model_number 41 = .ok (.aload_n 0, 1) := by decide +kernel
theorem d_Model_number_42 : decode og_c_Model_number 42 = .ok (.getfield 248, 3) := by decide +kernel
theorem d_Model_number_45 : decode og_c_Model_number 45 = .ok (.istore_n 3, 1) := by decide +kernel
theorem d_Model_number_46 : decode og_c_Model_number 46 = .ok (.iconst 0, 1) := by decide +kernel
theorem d_Model_number_47 : decode og_c_Model_number 47 = .ok (.istore 4, 2) := by decide +kernel
theorem d_Model_number_49 : decode og_c_Model_number 49 = .ok (.aload_n 0, 1) := by decide +kernel
theorem d_Model_number_50 : decode og_c_Model_number 50 = .ok (.getfield 248, 3) := by decide +kernel
theorem d_Model_number_53 : decode og_c_Model_number 53 = .ok (.aload_n 0, 1) := by decide +kernel
theorem d_Model_number_54 : decode og_c_Model_number 54 = .ok (.getfield 251, 3) := by decide +kernel
theorem d_Model_number_57 : decode og_c_Model_number 57 = .ok (.if_icmp .ge 72, 3) := by decide +kernel
theorem d_Model_number_60 : decode og_c_Model_number 60 = .ok (.aload_n 0, 1) := by decide +kernel
theorem d_Model_number_61 : decode og_c_Model_number 61 = .ok (.getfield 7, 3) := by decide +kernel
theorem d_Model_number_64 : decode og_c_Model_number 64 = .ok (.aload_n 0, 1) := by decide +kernel
theorem d_Model_number_65 : decode og_c_Model_number 65 = .ok (.getfield 248, 3) := by decide +kernel
theorem d_Model_number_68 : decode og_c_Model_number 68 = .ok (.iaload, 1) := by decide +kernel
theorem d_Model_number_69 : decode og_c_Model_number 69 = .ok (.invokestatic 279, 3) := by decide +kernel
theorem d_Model_number_72 : decode og_c_Model_number 72 = .ok (.ifCond .eq 57, 3) := by decide +kernel
theorem d_Model_number_75 : decode og_c_Model_number 75 = .ok (.aload_n 0, 1) := by decide +kernel
theorem d_Model_number_76 : decode og_c_Model_number 76 = .ok (.getfield 248, 3) := by decide +kernel
theorem d_Model_number_79 : decode og_c_Model_number 79 = .ok (.iload_n 3, 1) := by decide +kernel
theorem d_Model_number_80 : decode og_c_Model_number 80 = .ok (.isub, 1) := by decide +kernel
theorem d_Model_number_81 : decode og_c_Model_number 81 = .ok (.iconst 4, 1) := by decide +kernel
theorem d_Model_number_82 : decode og_c_Model_number 82 = .ok (.if_icmp .ne 14, 3) := by decide +kernel
theorem d_Model_number_85 : decode og_c_Model_number 85 = .ok (.aload_n 0, 1) := by decide +kernel
theorem d_Model_number_86 : decode og_c_Model_number 86 = .ok (.iconst 1, 1) := by decide +kernel
theorem d_Model_number_87 : decode og_c_Model_number 87 = .ok (.aload_n 0, 1) := by decide +kernel
theorem d_Model_number_88 : decode og_c_Model_number 88 = .ok (.getfield 248, 3) := by decide +kernel
theorem d_Model_number_91 : decode og_c_Model_number 91 = .ok (.invokevirtual 272, 3) := by decide +kernel
theorem d_Model_number_94 : decode og_c_Model_number 94 = .ok (.iconst 0, 1) := by decide +kernel
theorem d_Model_number_95 : decode og_c_Model_number 95 = .ok (.ireturn, 1) := by decide +kernel
theorem d_Model_number_96 : decode og_c_Model_number 96 = .ok (.bipush 10, 2) := by decide +kernel
theorem d_Model_number_98 : decode og_c_Model_number 98 = .ok (.iload 4, 2) := by decide +kernel
theorem d_Model_number_100 : decode og_c_Model_number 100 = .ok (.imul, 1) := by decide +kernel
theorem d_Model_number_101 : decode og_c_Model_number 101 = .ok (.aload_n 0, 1) := by decide +kernel
theorem d_Model_number_102 : decode og_c_Model_number 102 = .ok (.getfield 7, 3) := by decide +kernel
theorem d_Model_number_105 : decode og_c_Model_number 105 = .ok (.aload_n 0, 1) := by decide +kernel
theorem d_Model_number_106 : decode og_c_Model_number 106 = .ok (.getfield 248, 3) := by decide +kernel
theorem d_Model_number_109 : decode og_c_Model_number 109 = .ok (.iaload, 1) := by decide +kernel
theorem d_Model_number_110 : decode og_c_Model_number 110 = .ok (.iadd, 1) := by decide +kernel
theorem d_Model_number_111 : decode og_c_Model_number 111 = .ok (.bipush 48, 2) := by decide +kernel
theorem d_Model_number_113 : decode og_c_Model_number 113 = .ok (.isub, 1) := by decide +kernel
theorem d_Model_number_114 : decode og_c_Model_number 114 = .ok (.istore 4, 2) := by decide +kernel
theorem d_Model_number_116 : decode og_c_Model_number 116 = .ok (.aload_n 0, 1) := by decide +kernel
theorem d_Model_number_117 : decode og_c_Model_number 117 = .ok (.dup, 1) := by decide +kernel
theorem d_Model_number_118 : decode og_c_Model_number 118 = .ok (.getfield 248, 3) := by decide +kernel
theorem d_Model_number_121 : decode og_c_Model_number 121 = .ok (.iconst 1, 1) := by decide +kernel
theorem d_Model_number_122 : decode og_c_Model_number 122 = .ok (.iadd, 1) := by decide +kernel
theorem d_Model_number_123 : decode og_c_Model_number 123 = .ok (.putfield 248, 3) := by decide +kernel
theorem d_Model_number_126 : decode og_c_Model_number 126 = .ok (.goto (-77), 3) := by decide +kernel
theorem d_Model_number_129 : decode og_c_Model_number 129 = .ok (.aload_n 0, 1) := by decide +kernel
theorem d_Model_number_130 : decode og_c_Model_number 130 = .ok (.aload_n 0, 1) := by decide +kernel
theorem d_Model_number_131 : decode og_c_Model_number 131 = .ok (.getfield 248, 3) := by decide +kernel
theorem d_Model_number_134 : decode og_c_Model_number 134 = .ok (.putfield 262, 3) := by decide +kernel
theorem d_Model_number_137 : decode og_c_Model_number 137 = .ok (.aload_n 0, 1) := by decide +kernel
theorem d_Model_number_138 : decode og_c_Model_number 138 = .ok (.iload_n 3, 1) := by decide +kernel
theorem d_Model_number_139 : decode og_c_Model_number 139 = .ok (.putfield 282, 3) := by decide +kernel
theorem d_Model_number_142 : decode og_c_Model_number 142 = .ok (.iload 4, 2) := by decide +kernel
theorem d_Model_number_144 : decode og_c_Model_number 144 = .ok (.i2l, 1) := by decide +kernel
theorem d_Model_number_145 : decode og_c_Model_number 145 = .ok (.iload_n 1, 1) := by decide +kernel
theorem d_Model_number_146 : decode og_c_Model_number 146 = .ok (.i2l, 1) := by decide +kernel
theorem d_Model_number_147 : decode og_c_Model_number 147 = .ok (.iload_n 2, 1) := by decide +kernel
theorem d_Model_number_148 : decode og_c_Model_number 148 = .ok (.i2l, 1) := by decide +kernel
theorem d_Model_number_149 : decode og_c_Model_number 149 = .ok (.invokestatic 285, 3) := by decide +kernel
theorem d_Model_number_152 : decode og_c_Model_number 152 = .ok (.ifCond .ne 12, 3) := by decide +kernel
theorem d_Model_number_155 : decode og_c_Model_number 155 = .ok (.aload_n 0, 1) := by decide +kernel
theorem d_Model_number_156 : decode og_c_Model_number 156 = .ok (.iconst 2, 1) := by decide +kernel
theorem d_Model_number_157 : decode og_c_Model_number 157 = .ok (.aload_n 0, 1) := by decide +kernel
theorem d_Model_number_158 : decode og_c_Model_number 158 = .ok (.getfield 282, 3) := by decide +kernel
theorem d_Model_number_161 : decode og_c_Model_number 161 = .ok (.invokevirtual 272, 3) := by decide +kernel
theorem d_Model_number_164 : decode og_c_Model_number 164 = .ok (.iload 4, 2) := by decide +kernel
theorem d_Model_number_166 : decode og_c_Model_number 166 = .ok (.ireturn, 1) := by decide +kernel
def m_Model_number : og_Dn := og_den [17, 0, 0] 5 0 (og_seq (og_if (og_cc og_rne (og_get 5 (og_loc 0)) (og_k 0)) (og_ret (og_k 0)) (og_skip)) (og_seq (og_if (og_or (og_not (og_cb (og_call m_Model_isDigit [og_call m_Model_look [og_loc 0]]))) (og_cc og_req (og_get 2 (og_loc 0)) (og_get 4 (og_loc 0)))) (og_seq (og_exp (og_call m_Model_fail [og_loc 0, og_k 1, og_get 2 (og_loc 0)])) (og_ret (og_k 0))) (og_skip)) (og_seq (og_set 3 (og_get 2 (og_loc 0))) (og_seq (og_set 4 (og_k 0)) (og_cut (og_while (og_and (og_cc og_rlt (og_get 2 (og_loc 0)) (og_get 3 (og_loc 0))) (og_cb (og_call m_Model_isDigit [og_ald 1600 (og_fix (fun _ => 1001) (og_loc 0)) (og_get 2 (og_loc 0))]))) (og_seq (og_if (og_cc og_req (og_sub (og_get 2 (og_loc 0)) (og_loc 3)) (og_k 4)) (og_seq (og_exp (og_call m_Model_fail [og_loc 0, og_k 1, og_get 2 (og_loc 0)])) (og_ret (og_k 0))) (og_skip)) (og_seq (og_set 4 (og_sub (og_add (og_mul (og_k 10) (og_loc 4)) (og_ald 1600 (og_fix (fun _ => 1001) (og_loc 0)) (og_get 2 (og_loc 0)))) (og_k 48))) (og_pop32 og_padd 2 (og_loc 0) (og_k 1)))) (og_skip)) (og_seq (og_putf 4 (og_loc 0) (og_get 2 (og_loc 0))) (og_seq (og_putf 10 (og_loc 0) (og_loc 3)) (og_cut (og_if (og_not (og_cb (og_call m_Model_isIn [og_i2l (og_loc 4), og_i2l (og_loc 1), og_i2l (og_loc 2)]))) (og_exp (og_call m_Model_fail [og_loc 0, og_k 2, og_get 10 (og_loc 0)])) (og_skip)) (og_ret (og_loc 4))))))))))
set_option maxRecDepth 20000 in
theorem ok_Model_number : og_MOK og_y_Model_number og_c_Model_number 5 0 2 [17, 0, 0] m_Model_number := og_method (b := 0) (lt' := []) (by decide +kernel) (by decide) (by decide) (og_sseq (og_sif (T := 7) (F := 9) (og_ccn og_n_ne (og_zeq (tgt := 9) (og_f_Model_bad (og_aload_n (i := 0) (t := 15) (j := 0) (by rfl) (by rfl) d_Model_number_0) og_w1148 d_Model_number_1) d_Model_number_4 (by decide))) (og_sreti (og_iconst (by decide) d_Model_number_7) d_Model_number_8) (og_sskip)) (og_sseq (og_sif (T := 30) (F := 41) (og_cor (og_cnot (og_cbeq (tgt := 30) (og_callSz (og_acons (og_callVi (og_acons (og_aload_n (i := 0) (t := 15) (j := 0) (by rfl) (by rfl) d_Model_number_9) (og_anil)) (by decide) ok_Model_look (v_Model_look (by decide)) og_w1464 d_Model_number_10) (og_anil)) (by decide) ok_Model_isDigit (v_Model_isDigit (by decide)) og_w1517 d_Model_number_13) d_Model_number_16 (by decide))) (og_ccn og_n_eq (og_ine (tgt := 41) (og_f_Model_at (og_aload_n (i := 0) (t := 15) (j := 0) (by rfl) (by rfl) d_Model_number_19) og_w1145 d_Model_number_20) (og_f_Model_ended (og_aload_n (i := 0) (t := 15) (j := 0) (by rfl) (by rfl) d_Model_number_23) og_w1147 d_Model_number_24) d_Model_number_27 (by decide)))) (og_sseq (og_callVv (og_acons (og_aload_n (i := 0) (t := 15) (j := 0) (by rfl) (by rfl) d_Model_number_30) (og_acons (og_iconst (by decide) d_Model_number_31) (og_acons (og_f_Model_at (og_aload_n (i := 0) (t := 15) (j := 0) (by rfl) (by rfl) d_Model_number_32) og_w1145 d_Model_number_33) (og_anil)))) ok_Model_fail (v_Model_fail (by decide)) og_w1491 d_Model_number_36) (og_sreti (og_iconst (by decide) d_Model_number_39) d_Model_number_40)) (og_sskip)) (og_sseq (og_istore_n (i := 3) (lt' := [(0, 17), (1, 0), (2, 0), (3, 0)]) (og_f_Model_at (og_aload_n (i := 0) (t := 15) (j := 0) (by rfl) (by rfl) d_Model_number_41) og_w1145 d_Model_number_42) (by rfl) (by decide) (by decide) d_Model_number_45) (og_sseq (og_istore (i := 4) (lt' := [(0, 17), (1, 0), (2, 0), (3, 0), (4, 0)]) (og_iconst (by decide) d_Model_number_46) (by decide) (by decide) d_Model_number_47) (og_scut (og_swhile (T := 75) (F := 129) (cp0 := 49) (og_cand (og_ccn og_n_lt (og_ige (tgt := 129) (og_f_Model_at (og_aload_n (i := 0) (t := 15) (j := 0) (by rfl) (by rfl) d_Model_number_49) og_w1145 d_Model_number_50) (og_f_Model_end (og_aload_n (i := 0) (t := 15) (j := 0) (by rfl) (by rfl) d_Model_number_53) og_w1146 d_Model_number_54) d_Model_number_57 (by decide))) (og_cbeq (tgt := 129) (og_callSz (og_acons (og_iald (N := 1600) (og_f_Model_tape (og_aload_n (i := 0) (t := 15) (j := 0) (by rfl) (by rfl) d_Model_number_60) og_w1143 d_Model_number_61) (by rfl) (og_f_Model_at (og_aload_n (i := 0) (t := 15) (j := 0) (by rfl) (by rfl) d_Model_number_64) og_w1145 d_Model_number_65) d_Model_number_68) (og_anil)) (by decide) ok_Model_isDigit (v_Model_isDigit (by decide)) og_w1517 d_Model_number_69) d_Model_number_72 (by decide))) (og_sseq (og_sif (T := 85) (F := 96) (og_ccn og_n_eq (og_ine (tgt := 96) (og_isub (og_f_Model_at (og_aload_n (i := 0) (t := 15) (j := 0) (by rfl) (by rfl) d_Model_number_75) og_w1145 d_Model_number_76) (og_iload_n (i := 3) (j := 3) (by rfl) (by rfl) d_Model_number_79) d_Model_number_80) (og_iconst (by decide) d_Model_number_81) d_Model_number_82 (by decide))) (og_sseq (og_callVv (og_acons (og_aload_n (i := 0) (t := 15) (j := 0) (by rfl) (by rfl) d_Model_number_85) (og_acons (og_iconst (by decide) d_Model_number_86) (og_acons (og_f_Model_at (og_aload_n (i := 0) (t := 15) (j := 0) (by rfl) (by rfl) d_Model_number_87) og_w1145 d_Model_number_88) (og_anil)))) ok_Model_fail (v_Model_fail (by decide)) og_w1491 d_Model_number_91) (og_sreti (og_iconst (by decide) d_Model_number_94) d_Model_number_95)) (og_sskip)) (og_sseq (og_istore (i := 4) (lt' := [(0, 17), (1, 0), (2, 0), (3, 0), (4, 0)]) (og_isub (og_iadd (og_imul (og_bipush (by decide) d_Model_number_96) (og_iload (i := 4) (j := 4) (by rfl) d_Model_number_98) d_Model_number_100) (og_iald (N := 1600) (og_f_Model_tape (og_aload_n (i := 0) (t := 15) (j := 0) (by rfl) (by rfl) d_Model_number_101) og_w1143 d_Model_number_102) (by rfl) (og_f_Model_at (og_aload_n (i := 0) (t := 15) (j := 0) (by rfl) (by rfl) d_Model_number_105) og_w1145 d_Model_number_106) d_Model_number_109) d_Model_number_110) (og_bipush (by decide) d_Model_number_111) d_Model_number_113) (by decide) (by decide) d_Model_number_114) (og_gS (b' := 49) (og_qadd_Model_at (og_aload_n (i := 0) (t := 15) (j := 0) (by rfl) (by rfl) d_Model_number_116) d_Model_number_117 d_Model_number_118 (og_iconst (by decide) d_Model_number_121) d_Model_number_122 og_w1145 d_Model_number_123) d_Model_number_126 (by decide)))) (og_sskip)) (og_sseq (og_p_Model_ended (og_aload_n (i := 0) (t := 15) (j := 0) (by rfl) (by rfl) d_Model_number_129) (og_f_Model_at (og_aload_n (i := 0) (t := 15) (j := 0) (by rfl) (by rfl) d_Model_number_130) og_w1145 d_Model_number_131) og_w1147 d_Model_number_134) (og_sseq (og_p_Model_numberPlace (og_aload_n (i := 0) (t := 15) (j := 0) (by rfl) (by rfl) d_Model_number_137) (og_iload_n (i := 3) (j := 3) (by rfl) (by rfl) d_Model_number_138) og_w1153 d_Model_number_139) (og_scut (og_sif (T := 155) (F := 164) (og_cnot (og_cbne (tgt := 164) (og_callSz (og_acons (og_i2l_ (og_iload (i := 4) (j := 4) (by rfl) d_Model_number_142) d_Model_number_144) (og_acons (og_i2l_ (og_iload_n (i := 1) (j := 1) (by rfl) (by rfl) d_Model_number_145) d_Model_number_146) (og_acons (og_i2l_ (og_iload_n (i := 2) (j := 2) (by rfl) (by rfl) d_Model_number_147) d_Model_number_148) (og_anil)))) (by decide) ok_Model_isIn (v_Model_isIn (by decide)) og_w1520 d_Model_number_149) d_Model_number_152 (by decide))) (og_callVv (og_acons (og_aload_n (i := 0) (t := 15) (j := 0) (by rfl) (by rfl) d_Model_number_155) (og_acons (og_iconst (by decide) d_Model_number_156) (og_acons (og_f_Model_numberPlace (og_aload_n (i := 0) (t := 15) (j := 0) (by rfl) (by rfl) d_Model_number_157) og_w1153 d_Model_number_158) (og_anil)))) ok_Model_fail (v_Model_fail (by decide)) og_w1491 d_Model_number_161) (og_sskip)) (og_sreti (og_iload (i := 4) (j := 4) (by rfl) d_Model_number_164) d_Model_number_166))))))))) (fun h => by cases h)
abbrev og_c_Model_isOwnHere : ByteArray := prog_14_method_16_code
abbrev og_y_Model_isOwnHere : MethodName := ⟨"OpenGravesModel", "isOwnHere", "()Z"⟩
theorem v_Model_isOwnHere {own : String} {idx dep : Nat} (h : 3 + 1 ≤ dep) : og_sV own idx og_y_Model_isOwnHere og_c_Model_isOwnHere 2 3 3 dep 13 0 := ⟨⟨12, og_sl_Model, og_T_Model, 102, rfl, by decide, rfl⟩, og_w1505, (og_memP (⟨"OpenGravesModel", "isOwnHere", "()Z"⟩, 102) (List.mem_of_getElem? (i := 60) (by decide +kernel))), og_w17, og_w1506, ⟨by decide +kernel, by decide +kernel, by decide +kernel⟩, h, by decide⟩
theorem d_Model_isOwnHere_0 : decode og_c_Model_isOwnHere 0 = .ok (.aload_n 0, 1) := by decide +kernel
theorem d_Model_isOwnHere_1 : decode og_c_Model_isOwnHere 1 = .ok (.aload_n 0, 1) := by decide +kernel
theorem d_Model_isOwnHere_2 : decode og_c_Model_isOwnHere 2 = .ok (.getfield 20, 3) := by decide +kernel
theorem d_Model_isOwnHere_5 : decode og_c_Model_isOwnHere 5 = .ok (.invokevirtual 265, 3) := by decide +kernel
theorem d_Model_isOwnHere_8 : decode og_c_Model_isOwnHere 8 = .ok (.ifCond .ne 58, 3) := by decide +kernel
theorem d_Model_isOwnHere_11 : decode og_c_Model_isOwnHere 11 = .ok (.aload_n 0, 1) := by decide +kernel
theorem d_Model_isOwnHere_12 : decode og_c_Model_isOwnHere 12 = .ok (.aload_n 0, 1) := by decide +kernel
theorem d_Model_isOwnHere_13 : decode og_c_Model_isOwnHere 13 = .ok (.getfield 24, 3) := by decide +kernel
theorem d_Model_isOwnHere_16 : decode og_c_Model_isOwnHere 16 = .ok (.invokevirtual 265, 3) := by decide +kernel
theorem d_Model_isOwnHere_19 : decode og_c_Model_isOwnHere 19 = .ok (.ifCond .ne 47, 3) := by decide +kernel
theorem d_Model_isOwnHere_22 : decode og_c_Model_isOwnHere 22 = .ok (.aload_n 0, 1) := by decide +kernel
theorem d_Model_isOwnHere_23 : decode og_c_Model_isOwnHere 23 = .ok (.aload_n 0, 1) := by decide +kernel
theorem d_Model_isOwnHere_24 : decode og_c_Model_isOwnHere 24 = .ok (.getfield 27, 3) := by decide +kernel
theorem d_Model_isOwnHere_27 : decode og_c_Model_isOwnHere 27 = .ok (.invokevirtual 265, 3) := by decide +kernel
theorem d_Model_isOwnHere_30 : decode og_c_Model_isOwnHere 30 = .ok (.ifCond .ne 36, 3) := by decide +kernel
theorem d_Model_isOwnHere_33 : decode og_c_Model_isOwnHere 33 = .ok (.aload_n 0, 1) := by decide +kernel
theorem d_Model_isOwnHere_34 : decode og_c_Model_isOwnHere 34 = .ok (.aload_n 0, 1) := by decide +kernel
theorem d_Model_isOwnHere_35 : decode og_c_Model_isOwnHere 35 = .ok (.getfield 30, 3) := by decide +kernel
theorem d_Model_isOwnHere_38 : decode og_c_Model_isOwnHere 38 = .ok (.invokevirtual 265, 3) := by decide +kernel
theorem d_Model_isOwnHere_41 : decode og_c_Model_isOwnHere 41 = .ok (.ifCond .ne 25, 3) := by decide +kernel
theorem d_Model_isOwnHere_44 : decode og_c_Model_isOwnHere 44 = .ok (.aload_n 0, 1) := by decide +kernel
theorem d_Model_isOwnHere_45 : decode og_c_Model_isOwnHere 45 = .ok (.aload_n 0, 1) := by decide +kernel
theorem d_Model_isOwnHere_46 : decode og_c_Model_isOwnHere 46 = .ok (.getfield 33, 3) := by decide +kernel
theorem d_Model_isOwnHere_49 : decode og_c_Model_isOwnHere 49 = .ok (.invokevirtual 265, 3) := by decide +kernel
theorem d_Model_isOwnHere_52 : decode og_c_Model_isOwnHere 52 = .ok (.ifCond .ne 14, 3) := by decide +kernel
theorem d_Model_isOwnHere_55 : decode og_c_Model_isOwnHere 55 = .ok (.aload_n 0, 1) := by decide +kernel
theorem d_Model_isOwnHere_56 : decode og_c_Model_isOwnHere 56 = .ok (.aload_n 0, 1) := by decide +kernel
theorem d_Model_isOwnHere_57 : decode og_c_Model_isOwnHere 57 = .ok (.getfield 36, 3) := by decide +kernel
theorem d_Model_isOwnHere_60 : decode og_c_Model_isOwnHere 60 = .ok (.invokevirtual 265, 3) := by decide +kernel
theorem d_Model_isOwnHere_63 : decode og_c_Model_isOwnHere 63 = .ok (.ifCond .eq 7, 3) := by decide +kernel
theorem d_Model_isOwnHere_66 : decode og_c_Model_isOwnHere 66 = .ok (.iconst 1, 1) := by decide +kernel
theorem d_Model_isOwnHere_67 : decode og_c_Model_isOwnHere 67 = .ok (.goto 4, 3) := by decide +kernel
theorem d_Model_isOwnHere_70 : decode og_c_Model_isOwnHere 70 = .ok (.iconst 0, 1) := by decide +kernel
theorem d_Model_isOwnHere_71 : decode og_c_Model_isOwnHere 71 = .ok (.istore_n 1, 1) := by decide +kernel
theorem d_Model_isOwnHere_72 : decode og_c_Model_isOwnHere 72 = .ok (.iload_n 1, 1) := by decide +kernel
theorem d_Model_isOwnHere_73 : decode og_c_Model_isOwnHere 73 = .ok (.ifCond .ne 69, 3) := by decide +kernel
theorem d_Model_isOwnHere_76 : decode og_c_Model_isOwnHere 76 = .ok (.aload_n 0, 1) := by decide +kernel
theorem d_Model_isOwnHere_77 : decode og_c_Model_isOwnHere 77 = .ok (.aload_n 0, 1) := by decide +kernel
theorem d_Model_isOwnHere_78 : decode og_c_Model_isOwnHere 78 = .ok (.getfield 39, 3) := by decide +kernel
theorem d_Model_isOwnHere_81 : decode og_c_Model_isOwnHere 81 = .ok (.invokevirtual 265, 3) := by decide +kernel
theorem d_Model_isOwnHere_84 : decode og_c_Model_isOwnHere 84 = .ok (.ifCond .ne 58, 3) := by decide +kernel
theorem d_Model_isOwnHere_87 : decode og_c_Model_isOwnHere 87 = .ok (.aload_n 0, 1) := by decide +kernel
theorem d_Model_isOwnHere_88 : decode og_c_Model_isOwnHere 88 = .ok (.aload_n 0, 1) := by decide +kernel
theorem d_Model_isOwnHere_89 : decode og_c_Model_isOwnHere 89 = .ok (.getfield 42, 3) := by decide +kernel
theorem d_Model_isOwnHere_92 : decode og_c_Model_isOwnHere 92 = .ok (.invokevirtual 265, 3) := by decide +kernel
theorem d_Model_isOwnHere_95 : decode og_c_Model_isOwnHere 95 = .ok (.ifCond .ne 47, 3) := by decide +kernel
theorem d_Model_isOwnHere_98 : decode og_c_Model_isOwnHere 98 = .ok (.aload_n 0, 1) := by decide +kernel
theorem d_Model_isOwnHere_99 : decode og_c_Model_isOwnHere 99 = .ok (.aload_n 0, 1) := by decide +kernel
theorem d_Model_isOwnHere_100 : decode og_c_Model_isOwnHere 100 = .ok (.getfield 45, 3) := by decide +kernel
theorem d_Model_isOwnHere_103 : decode og_c_Model_isOwnHere 103 = .ok (.invokevirtual 265, 3) := by decide +kernel
theorem d_Model_isOwnHere_106 : decode og_c_Model_isOwnHere 106 = .ok (.ifCond .ne 36, 3) := by decide +kernel
theorem d_Model_isOwnHere_109 : decode og_c_Model_isOwnHere 109 = .ok (.aload_n 0, 1) := by decide +kernel
theorem d_Model_isOwnHere_110 : decode og_c_Model_isOwnHere 110 = .ok (.aload_n 0, 1) := by decide +kernel
theorem d_Model_isOwnHere_111 : decode og_c_Model_isOwnHere 111 = .ok (.getfield 48, 3) := by decide +kernel
theorem d_Model_isOwnHere_114 : decode og_c_Model_isOwnHere 114 = .ok (.invokevirtual 265, 3) := by decide +kernel
theorem d_Model_isOwnHere_117 : decode og_c_Model_isOwnHere 117 = .ok (.ifCond .ne 25, 3) := by decide +kernel
theorem d_Model_isOwnHere_120 : decode og_c_Model_isOwnHere 120 = .ok (.aload_n 0, 1) := by decide +kernel
theorem d_Model_isOwnHere_121 : decode og_c_Model_isOwnHere 121 = .ok (.aload_n 0, 1) := by decide +kernel
theorem d_Model_isOwnHere_122 : decode og_c_Model_isOwnHere 122 = .ok (.getfield 51, 3) := by decide +kernel
theorem d_Model_isOwnHere_125 : decode og_c_Model_isOwnHere 125 = .ok (.invokevirtual 265, 3) := by decide +kernel
theorem d_Model_isOwnHere_128 : decode og_c_Model_isOwnHere 128 = .ok (.ifCond .ne 14, 3) := by decide +kernel
theorem d_Model_isOwnHere_131 : decode og_c_Model_isOwnHere 131 = .ok (.aload_n 0, 1) := by decide +kernel
theorem d_Model_isOwnHere_132 : decode og_c_Model_isOwnHere 132 = .ok (.aload_n 0, 1) := by decide +kernel
theorem d_Model_isOwnHere_133 : decode og_c_Model_isOwnHere 133 = .ok (.getfield 54, 3) := by decide +kernel
theorem d_Model_isOwnHere_136 : decode og_c_Model_isOwnHere 136 = .ok (.invokevirtual 265, 3) := by decide +kernel
theorem d_Model_isOwnHere_139 : decode og_c_Model_isOwnHere 139 = .ok (.ifCond .eq 7, 3) := by decide +kernel
theorem d_Model_isOwnHere_142 : decode og_c_Model_isOwnHere 142 = .ok (.iconst 1, 1) := by decide +kernel
theorem d_Model_isOwnHere_143 : decode og_c_Model_isOwnHere 143 = .ok (.goto 4, 3) := by decide +kernel
theorem d_Model_isOwnHere_146 : decode og_c_Model_isOwnHere 146 = .ok (.iconst 0, 1) := by decide +kernel
theorem d_Model_isOwnHere_147 : decode og_c_Model_isOwnHere 147 = .ok (.istore_n 1, 1) := by decide +kernel
theorem d_Model_isOwnHere_148 : decode og_c_Model_isOwnHere 148 = .ok (.iload_n 1, 1) := by decide +kernel
theorem d_Model_isOwnHere_149 : decode og_c_Model_isOwnHere 149 = .ok (.ifCond .ne 69, 3) := by decide +kernel
theorem d_Model_isOwnHere_152 : decode og_c_Model_isOwnHere 152 = .ok (.aload_n 0, 1) := by decide +kernel
theorem d_Model_isOwnHere_153 : decode og_c_Model_isOwnHere 153 = .ok (.aload_n 0, 1) := by decide +kernel
theorem d_Model_isOwnHere_154 : decode og_c_Model_isOwnHere 154 = .ok (.getfield 57, 3) := by decide +kernel
theorem d_Model_isOwnHere_157 : decode og_c_Model_isOwnHere 157 = .ok (.invokevirtual 265, 3) := by decide +kernel
theorem d_Model_isOwnHere_160 : decode og_c_Model_isOwnHere 160 = .ok (.ifCond .ne 58, 3) := by decide +kernel
theorem d_Model_isOwnHere_163 : decode og_c_Model_isOwnHere 163 = .ok (.aload_n 0, 1) := by decide +kernel
theorem d_Model_isOwnHere_164 : decode og_c_Model_isOwnHere 164 = .ok (.aload_n 0, 1) := by decide +kernel
theorem d_Model_isOwnHere_165 : decode og_c_Model_isOwnHere 165 = .ok (.getfield 60, 3) := by decide +kernel
theorem d_Model_isOwnHere_168 : decode og_c_Model_isOwnHere 168 = .ok (.invokevirtual 265, 3) := by decide +kernel
theorem d_Model_isOwnHere_171 : decode og_c_Model_isOwnHere 171 = .ok (.ifCond .ne 47, 3) := by decide +kernel
theorem d_Model_isOwnHere_174 : decode og_c_Model_isOwnHere 174 = .ok (.aload_n 0, 1) := by decide +kernel
theorem d_Model_isOwnHere_175 : decode og_c_Model_isOwnHere 175 = .ok (.aload_n 0, 1) := by decide +kernel
theorem d_Model_isOwnHere_176 : decode og_c_Model_isOwnHere 176 = .ok (.getfield 63, 3) := by decide +kernel
theorem d_Model_isOwnHere_179 : decode og_c_Model_isOwnHere 179 = .ok (.invokevirtual 265, 3) := by decide +kernel
theorem d_Model_isOwnHere_182 : decode og_c_Model_isOwnHere 182 = .ok (.ifCond .ne 36, 3) := by decide +kernel
theorem d_Model_isOwnHere_185 : decode og_c_Model_isOwnHere 185 = .ok (.aload_n 0, 1) := by decide +kernel
theorem d_Model_isOwnHere_186 : decode og_c_Model_isOwnHere 186 = .ok (.aload_n 0, 1) := by decide +kernel
theorem d_Model_isOwnHere_187 : decode og_c_Model_isOwnHere 187 = .ok (.getfield 66, 3) := by decide +kernel
theorem d_Model_isOwnHere_190 : decode og_c_Model_isOwnHere 190 = .ok (.invokevirtual 265, 3) := by decide +kernel
theorem d_Model_isOwnHere_193 : decode og_c_Model_isOwnHere 193 = .ok (.ifCond .ne 25, 3) := by decide +kernel
theorem d_Model_isOwnHere_196 : decode og_c_Model_isOwnHere 196 = .ok (.aload_n 0, 1) := by decide +kernel
theorem d_Model_isOwnHere_197 : decode og_c_Model_isOwnHere 197 = .ok (.aload_n 0, 1) := by decide +kernel
theorem d_Model_isOwnHere_198 : decode og_c_Model_isOwnHere 198 = .ok (.getfield 69, 3) := by decide +kernel
theorem d_Model_isOwnHere_201 : decode og_c_Model_isOwnHere 201 = .ok (.invokevirtual 265, 3) := by decide +kernel
theorem d_Model_isOwnHere_204 : decode og_c_Model_isOwnHere 204 = .ok (.ifCond .ne 14, 3) := by decide +kernel
theorem d_Model_isOwnHere_207 : decode og_c_Model_isOwnHere 207 = .ok (.aload_n 0, 1) := by decide +kernel
theorem d_Model_isOwnHere_208 : decode og_c_Model_isOwnHere 208 = .ok (.aload_n 0, 1) := by decide +kernel
theorem d_Model_isOwnHere_209 : decode og_c_Model_isOwnHere 209 = .ok (.getfield 72, 3) := by decide +kernel
theorem d_Model_isOwnHere_212 : decode og_c_Model_isOwnHere 212 = .ok (.invokevirtual 265, 3) := by decide +kernel
theorem d_Model_isOwnHere_215 : decode og_c_Model_isOwnHere 215 = .ok (.ifCond .eq 7, 3) := by decide +kernel
theorem d_Model_isOwnHere_218 : decode og_c_Model_isOwnHere 218 = .ok (.iconst 1, 1) := by decide +kernel
theorem d_Model_isOwnHere_219 : decode og_c_Model_isOwnHere 219 = .ok (.goto 4, 3) := by decide +kernel
theorem d_Model_isOwnHere_222 : decode og_c_Model_isOwnHere 222 = .ok (.iconst 0, 1) := by decide +kernel
theorem d_Model_isOwnHere_223 : decode og_c_Model_isOwnHere 223 = .ok (.istore_n 1, 1) := by decide +kernel
theorem d_Model_isOwnHere_224 : decode og_c_Model_isOwnHere 224 = .ok (.iload_n 1, 1) := by decide +kernel
theorem d_Model_isOwnHere_225 : decode og_c_Model_isOwnHere 225 = .ok (.ifCond .ne 69, 3) := by decide +kernel
theorem d_Model_isOwnHere_228 : decode og_c_Model_isOwnHere 228 = .ok (.aload_n 0, 1) := by decide +kernel
theorem d_Model_isOwnHere_229 : decode og_c_Model_isOwnHere 229 = .ok (.aload_n 0, 1) := by decide +kernel
theorem d_Model_isOwnHere_230 : decode og_c_Model_isOwnHere 230 = .ok (.getfield 75, 3) := by decide +kernel
theorem d_Model_isOwnHere_233 : decode og_c_Model_isOwnHere 233 = .ok (.invokevirtual 265, 3) := by decide +kernel
theorem d_Model_isOwnHere_236 : decode og_c_Model_isOwnHere 236 = .ok (.ifCond .ne 58, 3) := by decide +kernel
theorem d_Model_isOwnHere_239 : decode og_c_Model_isOwnHere 239 = .ok (.aload_n 0, 1) := by decide +kernel
theorem d_Model_isOwnHere_240 : decode og_c_Model_isOwnHere 240 = .ok (.aload_n 0, 1) := by decide +kernel
theorem d_Model_isOwnHere_241 : decode og_c_Model_isOwnHere 241 = .ok (.getfield 78, 3) := by decide +kernel
theorem d_Model_isOwnHere_244 : decode og_c_Model_isOwnHere 244 = .ok (.invokevirtual 265, 3) := by decide +kernel
theorem d_Model_isOwnHere_247 : decode og_c_Model_isOwnHere 247 = .ok (.ifCond .ne 47, 3) := by decide +kernel
theorem d_Model_isOwnHere_250 : decode og_c_Model_isOwnHere 250 = .ok (.aload_n 0, 1) := by decide +kernel
theorem d_Model_isOwnHere_251 : decode og_c_Model_isOwnHere 251 = .ok (.aload_n 0, 1) := by decide +kernel
theorem d_Model_isOwnHere_252 : decode og_c_Model_isOwnHere 252 = .ok (.getfield 81, 3) := by decide +kernel
theorem d_Model_isOwnHere_255 : decode og_c_Model_isOwnHere 255 = .ok (.invokevirtual 265, 3) := by decide +kernel
theorem d_Model_isOwnHere_258 : decode og_c_Model_isOwnHere 258 = .ok (.ifCond .ne 36, 3) := by decide +kernel
theorem d_Model_isOwnHere_261 : decode og_c_Model_isOwnHere 261 = .ok (.aload_n 0, 1) := by decide +kernel
theorem d_Model_isOwnHere_262 : decode og_c_Model_isOwnHere 262 = .ok (.aload_n 0, 1) := by decide +kernel
theorem d_Model_isOwnHere_263 : decode og_c_Model_isOwnHere 263 = .ok (.getfield 84, 3) := by decide +kernel
theorem d_Model_isOwnHere_266 : decode og_c_Model_isOwnHere 266 = .ok (.invokevirtual 265, 3) := by decide +kernel
theorem d_Model_isOwnHere_269 : decode og_c_Model_isOwnHere 269 = .ok (.ifCond .ne 25, 3) := by decide +kernel
theorem d_Model_isOwnHere_272 : decode og_c_Model_isOwnHere 272 = .ok (.aload_n 0, 1) := by decide +kernel
theorem d_Model_isOwnHere_273 : decode og_c_Model_isOwnHere 273 = .ok (.aload_n 0, 1) := by decide +kernel
theorem d_Model_isOwnHere_274 : decode og_c_Model_isOwnHere 274 = .ok (.getfield 87, 3) := by decide +kernel
theorem d_Model_isOwnHere_277 : decode og_c_Model_isOwnHere 277 = .ok (.invokevirtual 265, 3) := by decide +kernel
theorem d_Model_isOwnHere_280 : decode og_c_Model_isOwnHere 280 = .ok (.ifCond .ne 14, 3) := by decide +kernel
theorem d_Model_isOwnHere_283 : decode og_c_Model_isOwnHere 283 = .ok (.aload_n 0, 1) := by decide +kernel
theorem d_Model_isOwnHere_284 : decode og_c_Model_isOwnHere 284 = .ok (.aload_n 0, 1) := by decide +kernel
theorem d_Model_isOwnHere_285 : decode og_c_Model_isOwnHere 285 = .ok (.getfield 90, 3) := by decide +kernel
theorem d_Model_isOwnHere_288 : decode og_c_Model_isOwnHere 288 = .ok (.invokevirtual 265, 3) := by decide +kernel
theorem d_Model_isOwnHere_291 : decode og_c_Model_isOwnHere 291 = .ok (.ifCond .eq 7, 3) := by decide +kernel
theorem d_Model_isOwnHere_294 : decode og_c_Model_isOwnHere 294 = .ok (.iconst 1, 1) := by decide +kernel
theorem d_Model_isOwnHere_295 : decode og_c_Model_isOwnHere 295 = .ok (.goto 4, 3) := by decide +kernel
theorem d_Model_isOwnHere_298 : decode og_c_Model_isOwnHere 298 = .ok (.iconst 0, 1) := by decide +kernel
theorem d_Model_isOwnHere_299 : decode og_c_Model_isOwnHere 299 = .ok (.istore_n 1, 1) := by decide +kernel
theorem d_Model_isOwnHere_300 : decode og_c_Model_isOwnHere 300 = .ok (.iload_n 1, 1) := by decide +kernel
theorem d_Model_isOwnHere_301 : decode og_c_Model_isOwnHere 301 = .ok (.ifCond .ne 14, 3) := by decide +kernel
theorem d_Model_isOwnHere_304 : decode og_c_Model_isOwnHere 304 = .ok (.aload_n 0, 1) := by decide +kernel
theorem d_Model_isOwnHere_305 : decode og_c_Model_isOwnHere 305 = .ok (.aload_n 0, 1) := by decide +kernel
theorem d_Model_isOwnHere_306 : decode og_c_Model_isOwnHere 306 = .ok (.getfield 93, 3) := by decide +kernel
theorem d_Model_isOwnHere_309 : decode og_c_Model_isOwnHere 309 = .ok (.invokevirtual 265, 3) := by decide +kernel
theorem d_Model_isOwnHere_312 : decode og_c_Model_isOwnHere 312 = .ok (.ifCond .eq 7, 3) := by decide +kernel
theorem d_Model_isOwnHere_315 : decode og_c_Model_isOwnHere 315 = .ok (.iconst 1, 1) := by decide +kernel
theorem d_Model_isOwnHere_316 : decode og_c_Model_isOwnHere 316 = .ok (.goto 4, 3) := by decide +kernel
theorem d_Model_isOwnHere_319 : decode og_c_Model_isOwnHere 319 = .ok (.iconst 0, 1) := by decide +kernel
theorem d_Model_isOwnHere_320 : decode og_c_Model_isOwnHere 320 = .ok (.istore_n 1, 1) := by decide +kernel
theorem d_Model_isOwnHere_321 : decode og_c_Model_isOwnHere 321 = .ok (.iload_n 1, 1) := by decide +kernel
theorem d_Model_isOwnHere_322 : decode og_c_Model_isOwnHere 322 = .ok (.ireturn, 1) := by decide +kernel
def m_Model_isOwnHere : og_Dn := og_den [17] 2 3 (og_seq (og_set 1 (og_ec (og_or (og_or (og_or (og_or (og_or (og_cb (og_call m_Model_isHere [og_loc 0, og_fix (fun _ => 1003) (og_loc 0)])) (og_cb (og_call m_Model_isHere [og_loc 0, og_fix (fun _ => 1004) (og_loc 0)]))) (og_cb (og_call m_Model_isHere [og_loc 0, og_fix (fun _ => 1005) (og_loc 0)]))) (og_cb (og_call m_Model_isHere [og_loc 0, og_fix (fun _ => 1006) (og_loc 0)]))) (og_cb (og_call m_Model_isHere [og_loc 0, og_fix (fun _ => 1007) (og_loc 0)]))) (og_cb (og_call m_Model_isHere [og_loc 0, og_fix (fun _ => 1008) (og_loc 0)]))))) (og_seq (og_set 1 (og_ec (og_or (og_or (og_or (og_or (og_or (og_or (og_cb (og_loc 1)) (og_cb (og_call m_Model_isHere [og_loc 0, og_fix (fun _ => 1009) (og_loc 0)]))) (og_cb (og_call m_Model_isHere [og_loc 0, og_fix (fun _ => 1010) (og_loc 0)]))) (og_cb (og_call m_Model_isHere [og_loc 0, og_fix (fun _ => 1011) (og_loc 0)]))) (og_cb (og_call m_Model_isHere [og_loc 0, og_fix (fun _ => 1012) (og_loc 0)]))) (og_cb (og_call m_Model_isHere [og_loc 0, og_fix (fun _ => 1013) (og_loc 0)]))) (og_cb (og_call m_Model_isHere [og_loc 0, og_fix (fun _ => 1014) (og_loc 0)]))))) (og_seq (og_set 1 (og_ec (og_or (og_or (og_or (og_or (og_or (og_or (og_cb (og_loc 1)) (og_cb (og_call m_Model_isHere [og_loc 0, og_fix (fun _ => 1015) (og_loc 0)]))) (og_cb (og_call m_Model_isHere [og_loc 0, og_fix (fun _ => 1016) (og_loc 0)]))) (og_cb (og_call m_Model_isHere [og_loc 0, og_fix (fun _ => 1017) (og_loc 0)]))) (og_cb (og_call m_Model_isHere [og_loc 0, og_fix (fun _ => 1018) (og_loc 0)]))) (og_cb (og_call m_Model_isHere [og_loc 0, og_fix (fun _ => 1019) (og_loc 0)]))) (og_cb (og_call m_Model_isHere [og_loc 0, og_fix (fun _ => 1020) (og_loc 0)]))))) (og_seq (og_set 1 (og_ec (og_or (og_or (og_or (og_or (og_or (og_or (og_cb (og_loc 1)) (og_cb (og_call m_Model_isHere [og_loc 0, og_fix (fun _ => 1021) (og_loc 0)]))) (og_cb (og_call m_Model_isHere [og_loc 0, og_fix (fun _ => 1022) (og_loc 0)]))) (og_cb (og_call m_Model_isHere [og_loc 0, og_fix (fun _ => 1023) (og_loc 0)]))) (og_cb (og_call m_Model_isHere [og_loc 0, og_fix (fun _ => 1024) (og_loc 0)]))) (og_cb (og_call m_Model_isHere [og_loc 0, og_fix (fun _ => 1025) (og_loc 0)]))) (og_cb (og_call m_Model_isHere [og_loc 0, og_fix (fun _ => 1026) (og_loc 0)]))))) (og_seq (og_set 1 (og_ec (og_or (og_cb (og_loc 1)) (og_cb (og_call m_Model_isHere [og_loc 0, og_fix (fun _ => 1027) (og_loc 0)]))))) (og_retz (og_loc 1)))))))
set_option maxRecDepth 20000 in
theorem ok_Model_isOwnHere : og_MOK og_y_Model_isOwnHere og_c_Model_isOwnHere 2 3 3 [17] m_Model_isOwnHere := og_method (b := 0) (lt' := []) (by decide +kernel) (by decide) (by decide) (og_sseq (og_istore_n (i := 1) (lt' := [(0, 17), (1, 0)]) (og_econd (b := 0) (og_cor (og_cor (og_cor (og_cor (og_cor (og_cbne (tgt := 66) (og_callVz (og_acons (og_aload_n (i := 0) (t := 15) (j := 0) (by rfl) (by rfl) d_Model_isOwnHere_0) (og_acons (og_genc (og_f_Model_graveWord (og_aload_n (i := 0) (t := 15) (j := 0) (by rfl) (by rfl) d_Model_isOwnHere_1) og_w1154 d_Model_isOwnHere_2) (by rfl)) (og_anil))) (by decide) ok_Model_isHere (v_Model_isHere (by decide)) og_w1476 d_Model_isOwnHere_5) d_Model_isOwnHere_8 (by decide)) (og_cbne (tgt := 66) (og_callVz (og_acons (og_aload_n (i := 0) (t := 15) (j := 0) (by rfl) (by rfl) d_Model_isOwnHere_11) (og_acons (og_genc (og_f_Model_longWord (og_aload_n (i := 0) (t := 15) (j := 0) (by rfl) (by rfl) d_Model_isOwnHere_12) og_w1155 d_Model_isOwnHere_13) (by rfl)) (og_anil))) (by decide) ok_Model_isHere (v_Model_isHere (by decide)) og_w1476 d_Model_isOwnHere_16) d_Model_isOwnHere_19 (by decide))) (og_cbne (tgt := 66) (og_callVz (og_acons (og_aload_n (i := 0) (t := 15) (j := 0) (by rfl) (by rfl) d_Model_isOwnHere_22) (og_acons (og_genc (og_f_Model_deepWord (og_aload_n (i := 0) (t := 15) (j := 0) (by rfl) (by rfl) d_Model_isOwnHere_23) og_w1156 d_Model_isOwnHere_24) (by rfl)) (og_anil))) (by decide) ok_Model_isHere (v_Model_isHere (by decide)) og_w1476 d_Model_isOwnHere_27) d_Model_isOwnHere_30 (by decide))) (og_cbne (tgt := 66) (og_callVz (og_acons (og_aload_n (i := 0) (t := 15) (j := 0) (by rfl) (by rfl) d_Model_isOwnHere_33) (og_acons (og_genc (og_f_Model_dueWord (og_aload_n (i := 0) (t := 15) (j := 0) (by rfl) (by rfl) d_Model_isOwnHere_34) og_w1157 d_Model_isOwnHere_35) (by rfl)) (og_anil))) (by decide) ok_Model_isHere (v_Model_isHere (by decide)) og_w1476 d_Model_isOwnHere_38) d_Model_isOwnHere_41 (by decide))) (og_cbne (tgt := 66) (og_callVz (og_acons (og_aload_n (i := 0) (t := 15) (j := 0) (by rfl) (by rfl) d_Model_isOwnHere_44) (og_acons (og_genc (og_f_Model_personWord (og_aload_n (i := 0) (t := 15) (j := 0) (by rfl) (by rfl) d_Model_isOwnHere_45) og_w1158 d_Model_isOwnHere_46) (by rfl)) (og_anil))) (by decide) ok_Model_isHere (v_Model_isHere (by decide)) og_w1476 d_Model_isOwnHere_49) d_Model_isOwnHere_52 (by decide))) (og_cbeq (tgt := 70) (og_callVz (og_acons (og_aload_n (i := 0) (t := 15) (j := 0) (by rfl) (by rfl) d_Model_isOwnHere_55) (og_acons (og_genc (og_f_Model_tallWord (og_aload_n (i := 0) (t := 15) (j := 0) (by rfl) (by rfl) d_Model_isOwnHere_56) og_w1159 d_Model_isOwnHere_57) (by rfl)) (og_anil))) (by decide) ok_Model_isHere (v_Model_isHere (by decide)) og_w1476 d_Model_isOwnHere_60) d_Model_isOwnHere_63 (by decide))) d_Model_isOwnHere_66 d_Model_isOwnHere_67 (by decide) d_Model_isOwnHere_70 (by rfl)) (by rfl) (by decide) (by decide) d_Model_isOwnHere_71) (og_sseq (og_istore_n (i := 1) (lt' := [(0, 17), (1, 0)]) (og_econd (b := 0) (og_cor (og_cor (og_cor (og_cor (og_cor (og_cor (og_cbne (tgt := 142) (og_iload_n (i := 1) (j := 1) (by rfl) (by rfl) d_Model_isOwnHere_72) d_Model_isOwnHere_73 (by decide)) (og_cbne (tgt := 142) (og_callVz (og_acons (og_aload_n (i := 0) (t := 15) (j := 0) (by rfl) (by rfl) d_Model_isOwnHere_76) (og_acons (og_genc (og_f_Model_ageWord (og_aload_n (i := 0) (t := 15) (j := 0) (by rfl) (by rfl) d_Model_isOwnHere_77) og_w1160 d_Model_isOwnHere_78) (by rfl)) (og_anil))) (by decide) ok_Model_isHere (v_Model_isHere (by decide)) og_w1476 d_Model_isOwnHere_81) d_Model_isOwnHere_84 (by decide))) (og_cbne (tgt := 142) (og_callVz (og_acons (og_aload_n (i := 0) (t := 15) (j := 0) (by rfl) (by rfl) d_Model_isOwnHere_87) (og_acons (og_genc (og_f_Model_willWord (og_aload_n (i := 0) (t := 15) (j := 0) (by rfl) (by rfl) d_Model_isOwnHere_88) og_w1161 d_Model_isOwnHere_89) (by rfl)) (og_anil))) (by decide) ok_Model_isHere (v_Model_isHere (by decide)) og_w1476 d_Model_isOwnHere_92) d_Model_isOwnHere_95 (by decide))) (og_cbne (tgt := 142) (og_callVz (og_acons (og_aload_n (i := 0) (t := 15) (j := 0) (by rfl) (by rfl) d_Model_isOwnHere_98) (og_acons (og_genc (og_f_Model_diesWord (og_aload_n (i := 0) (t := 15) (j := 0) (by rfl) (by rfl) d_Model_isOwnHere_99) og_w1162 d_Model_isOwnHere_100) (by rfl)) (og_anil))) (by decide) ok_Model_isHere (v_Model_isHere (by decide)) og_w1476 d_Model_isOwnHere_103) d_Model_isOwnHere_106 (by decide))) (og_cbne (tgt := 142) (og_callVz (og_acons (og_aload_n (i := 0) (t := 15) (j := 0) (by rfl) (by rfl) d_Model_isOwnHere_109) (og_acons (og_genc (og_f_Model_comesWord (og_aload_n (i := 0) (t := 15) (j := 0) (by rfl) (by rfl) d_Model_isOwnHere_110) og_w1163 d_Model_isOwnHere_111) (by rfl)) (og_anil))) (by decide) ok_Model_isHere (v_Model_isHere (by decide)) og_w1476 d_Model_isOwnHere_114) d_Model_isOwnHere_117 (by decide))) (og_cbne (tgt := 142) (og_callVz (og_acons (og_aload_n (i := 0) (t := 15) (j := 0) (by rfl) (by rfl) d_Model_isOwnHere_120) (og_acons (og_genc (og_f_Model_takesWord (og_aload_n (i := 0) (t := 15) (j := 0) (by rfl) (by rfl) d_Model_isOwnHere_121) og_w1164 d_Model_isOwnHere_122) (by rfl)) (og_anil))) (by decide) ok_Model_isHere (v_Model_isHere (by decide)) og_w1476 d_Model_isOwnHere_125) d_Model_isOwnHere_128 (by decide))) (og_cbeq (tgt := 146) (og_callVz (og_acons (og_aload_n (i := 0) (t := 15) (j := 0) (by rfl) (by rfl) d_Model_isOwnHere_131) (og_acons (og_genc (og_f_Model_heartWord (og_aload_n (i := 0) (t := 15) (j := 0) (by rfl) (by rfl) d_Model_isOwnHere_132) og_w1165 d_Model_isOwnHere_133) (by rfl)) (og_anil))) (by decide) ok_Model_isHere (v_Model_isHere (by decide)) og_w1476 d_Model_isOwnHere_136) d_Model_isOwnHere_139 (by decide))) d_Model_isOwnHere_142 d_Model_isOwnHere_143 (by decide) d_Model_isOwnHere_146 (by rfl)) (by rfl) (by decide) (by decide) d_Model_isOwnHere_147) (og_sseq (og_istore_n (i := 1) (lt' := [(0, 17), (1, 0)]) (og_econd (b := 0) (og_cor (og_cor (og_cor (og_cor (og_cor (og_cor (og_cbne (tgt := 218) (og_iload_n (i := 1) (j := 1) (by rfl) (by rfl) d_Model_isOwnHere_148) d_Model_isOwnHere_149 (by decide)) (og_cbne (tgt := 218) (og_callVz (og_acons (og_aload_n (i := 0) (t := 15) (j := 0) (by rfl) (by rfl) d_Model_isOwnHere_152) (og_acons (og_genc (og_f_Model_harmWord (og_aload_n (i := 0) (t := 15) (j := 0) (by rfl) (by rfl) d_Model_isOwnHere_153) og_w1166 d_Model_isOwnHere_154) (by rfl)) (og_anil))) (by decide) ok_Model_isHere (v_Model_isHere (by decide)) og_w1476 d_Model_isOwnHere_157) d_Model_isOwnHere_160 (by decide))) (og_cbne (tgt := 218) (og_callVz (og_acons (og_aload_n (i := 0) (t := 15) (j := 0) (by rfl) (by rfl) d_Model_isOwnHere_163) (og_acons (og_genc (og_f_Model_monthWord (og_aload_n (i := 0) (t := 15) (j := 0) (by rfl) (by rfl) d_Model_isOwnHere_164) og_w1167 d_Model_isOwnHere_165) (by rfl)) (og_anil))) (by decide) ok_Model_isHere (v_Model_isHere (by decide)) og_w1476 d_Model_isOwnHere_168) d_Model_isOwnHere_171 (by decide))) (og_cbne (tgt := 218) (og_callVz (og_acons (og_aload_n (i := 0) (t := 15) (j := 0) (by rfl) (by rfl) d_Model_isOwnHere_174) (og_acons (og_genc (og_f_Model_askedWord (og_aload_n (i := 0) (t := 15) (j := 0) (by rfl) (by rfl) d_Model_isOwnHere_175) og_w1168 d_Model_isOwnHere_176) (by rfl)) (og_anil))) (by decide) ok_Model_isHere (v_Model_isHere (by decide)) og_w1476 d_Model_isOwnHere_179) d_Model_isOwnHere_182 (by decide))) (og_cbne (tgt := 218) (og_callVz (og_acons (og_aload_n (i := 0) (t := 15) (j := 0) (by rfl) (by rfl) d_Model_isOwnHere_185) (og_acons (og_genc (og_f_Model_takenWord (og_aload_n (i := 0) (t := 15) (j := 0) (by rfl) (by rfl) d_Model_isOwnHere_186) og_w1169 d_Model_isOwnHere_187) (by rfl)) (og_anil))) (by decide) ok_Model_isHere (v_Model_isHere (by decide)) og_w1476 d_Model_isOwnHere_190) d_Model_isOwnHere_193 (by decide))) (og_cbne (tgt := 218) (og_callVz (og_acons (og_aload_n (i := 0) (t := 15) (j := 0) (by rfl) (by rfl) d_Model_isOwnHere_196) (og_acons (og_genc (og_f_Model_numberWord (og_aload_n (i := 0) (t := 15) (j := 0) (by rfl) (by rfl) d_Model_isOwnHere_197) og_w1170 d_Model_isOwnHere_198) (by rfl)) (og_anil))) (by decide) ok_Model_isHere (v_Model_isHere (by decide)) og_w1476 d_Model_isOwnHere_201) d_Model_isOwnHere_204 (by decide))) (og_cbeq (tgt := 222) (og_callVz (og_acons (og_aload_n (i := 0) (t := 15) (j := 0) (by rfl) (by rfl) d_Model_isOwnHere_207) (og_acons (og_genc (og_f_Model_aliveWord (og_aload_n (i := 0) (t := 15) (j := 0) (by rfl) (by rfl) d_Model_isOwnHere_208) og_w1171 d_Model_isOwnHere_209) (by rfl)) (og_anil))) (by decide) ok_Model_isHere (v_Model_isHere (by decide)) og_w1476 d_Model_isOwnHere_212) d_Model_isOwnHere_215 (by decide))) d_Model_isOwnHere_218 d_Model_isOwnHere_219 (by decide) d_Model_isOwnHere_222 (by rfl)) (by rfl) (by decide) (by decide) d_Model_isOwnHere_223) (og_sseq (og_istore_n (i := 1) (lt' := [(0, 17), (1, 0)]) (og_econd (b := 0) (og_cor (og_cor (og_cor (og_cor (og_cor (og_cor (og_cbne (tgt := 294) (og_iload_n (i := 1) (j := 1) (by rfl) (by rfl) d_Model_isOwnHere_224) d_Model_isOwnHere_225 (by decide)) (og_cbne (tgt := 294) (og_callVz (og_acons (og_aload_n (i := 0) (t := 15) (j := 0) (by rfl) (by rfl) d_Model_isOwnHere_228) (og_acons (og_genc (og_f_Model_fitsWord (og_aload_n (i := 0) (t := 15) (j := 0) (by rfl) (by rfl) d_Model_isOwnHere_229) og_w1172 d_Model_isOwnHere_230) (by rfl)) (og_anil))) (by decide) ok_Model_isHere (v_Model_isHere (by decide)) og_w1476 d_Model_isOwnHere_233) d_Model_isOwnHere_236 (by decide))) (og_cbne (tgt := 294) (og_callVz (og_acons (og_aload_n (i := 0) (t := 15) (j := 0) (by rfl) (by rfl) d_Model_isOwnHere_239) (og_acons (og_genc (og_f_Model_orWord (og_aload_n (i := 0) (t := 15) (j := 0) (by rfl) (by rfl) d_Model_isOwnHere_240) og_w1173 d_Model_isOwnHere_241) (by rfl)) (og_anil))) (by decide) ok_Model_isHere (v_Model_isHere (by decide)) og_w1476 d_Model_isOwnHere_244) d_Model_isOwnHere_247 (by decide))) (og_cbne (tgt := 294) (og_callVz (og_acons (og_aload_n (i := 0) (t := 15) (j := 0) (by rfl) (by rfl) d_Model_isOwnHere_250) (og_acons (og_genc (og_f_Model_andWord (og_aload_n (i := 0) (t := 15) (j := 0) (by rfl) (by rfl) d_Model_isOwnHere_251) og_w1174 d_Model_isOwnHere_252) (by rfl)) (og_anil))) (by decide) ok_Model_isHere (v_Model_isHere (by decide)) og_w1476 d_Model_isOwnHere_255) d_Model_isOwnHere_258 (by decide))) (og_cbne (tgt := 294) (og_callVz (og_acons (og_aload_n (i := 0) (t := 15) (j := 0) (by rfl) (by rfl) d_Model_isOwnHere_261) (og_acons (og_genc (og_f_Model_notWord (og_aload_n (i := 0) (t := 15) (j := 0) (by rfl) (by rfl) d_Model_isOwnHere_262) og_w1175 d_Model_isOwnHere_263) (by rfl)) (og_anil))) (by decide) ok_Model_isHere (v_Model_isHere (by decide)) og_w1476 d_Model_isOwnHere_266) d_Model_isOwnHere_269 (by decide))) (og_cbne (tgt := 294) (og_callVz (og_acons (og_aload_n (i := 0) (t := 15) (j := 0) (by rfl) (by rfl) d_Model_isOwnHere_272) (og_acons (og_genc (og_f_Model_allWord (og_aload_n (i := 0) (t := 15) (j := 0) (by rfl) (by rfl) d_Model_isOwnHere_273) og_w1176 d_Model_isOwnHere_274) (by rfl)) (og_anil))) (by decide) ok_Model_isHere (v_Model_isHere (by decide)) og_w1476 d_Model_isOwnHere_277) d_Model_isOwnHere_280 (by decide))) (og_cbeq (tgt := 298) (og_callVz (og_acons (og_aload_n (i := 0) (t := 15) (j := 0) (by rfl) (by rfl) d_Model_isOwnHere_283) (og_acons (og_genc (og_f_Model_minWord (og_aload_n (i := 0) (t := 15) (j := 0) (by rfl) (by rfl) d_Model_isOwnHere_284) og_w1177 d_Model_isOwnHere_285) (by rfl)) (og_anil))) (by decide) ok_Model_isHere (v_Model_isHere (by decide)) og_w1476 d_Model_isOwnHere_288) d_Model_isOwnHere_291 (by decide))) d_Model_isOwnHere_294 d_Model_isOwnHere_295 (by decide) d_Model_isOwnHere_298 (by rfl)) (by rfl) (by decide) (by decide) d_Model_isOwnHere_299) (og_sseq (og_istore_n (i := 1) (lt' := [(0, 17), (1, 0)]) (og_econd (b := 0) (og_cor (og_cbne (tgt := 315) (og_iload_n (i := 1) (j := 1) (by rfl) (by rfl) d_Model_isOwnHere_300) d_Model_isOwnHere_301 (by decide)) (og_cbeq (tgt := 319) (og_callVz (og_acons (og_aload_n (i := 0) (t := 15) (j := 0) (by rfl) (by rfl) d_Model_isOwnHere_304) (og_acons (og_genc (og_f_Model_maxWord (og_aload_n (i := 0) (t := 15) (j := 0) (by rfl) (by rfl) d_Model_isOwnHere_305) og_w1178 d_Model_isOwnHere_306) (by rfl)) (og_anil))) (by decide) ok_Model_isHere (v_Model_isHere (by decide)) og_w1476 d_Model_isOwnHere_309) d_Model_isOwnHere_312 (by decide))) d_Model_isOwnHere_315 d_Model_isOwnHere_316 (by decide) d_Model_isOwnHere_319 (by rfl)) (by rfl) (by decide) (by decide) d_Model_isOwnHere_320) (og_sretz (og_iload_n (i := 1) (j := 1) (by rfl) (by rfl) d_Model_isOwnHere_321) d_Model_isOwnHere_322)))))) (fun h => by cases h)
abbrev og_c_Model_name : ByteArray := prog_14_method_17_code
abbrev og_y_Model_name : MethodName := ⟨"OpenGravesModel", "name", "()J"⟩
theorem v_Model_name {own : String} {idx dep : Nat} (h : 4 + 1 ≤ dep) : og_sV own idx og_y_Model_name og_c_Model_name 3 1 4 dep 13 0 := ⟨⟨12, og_sl_Model, og_T_Model, 102, rfl, by decide, rfl⟩, og_w1501, (og_memP (⟨"OpenGravesModel", "name", "()J"⟩, 102) (List.mem_of_getElem? (i := 59) (by decide +kernel))), og_w17, og_w1502, ⟨by decide +kernel, by decide +kernel, by decide +kernel⟩, h, by decide⟩
theorem d_Model_name_0 : decode og_c_Model_name 0 = .ok (.aload_n 0, 1) := by decide +kernel
theorem d_Model_name_1 : decode og_c_Model_name 1 = .ok (.getfield 242, 3) := by decide +kernel
theorem d_Model_name_4 : decode og_c_Model_name 4 = .ok (.ifCond .eq 5, 3) := by decide +kernel
theorem d_Model_name_7 : decode og_c_Model_name 7 = .ok (.lconst 0, 1) := by decide +kernel
theorem d_Model_name_8 : decode og_c_Model_name 8 = .ok (.lreturn, 1) := by decide +kernel
theorem d_Model_name_9 : decode og_c_Model_name 9 = .ok (.aload_n 0, 1) := by decide +kernel
theorem d_Model_name_10 : decode og_c_Model_name 10 = .ok (.invokevirtual 254, 3) := by decide +kernel
theorem d_Model_name_13 : decode og_c_Model_name 13 = .ok (.invokestatic 258, 3) := by decide +kernel
theorem d_Model_name_16 : decode og_c_Model_name 16 = .ok (.ifCond .eq 21, 3) := by decide +kernel
theorem d_Model_name_19 : decode og_c_Model_name 19 = .ok (.aload_n 0, 1) := by decide +kernel
theorem d_Model_name_20 : decode og_c_Model_name 20 = .ok (.getfield 248, 3) := by decide +kernel
theorem d_Model_name_23 : decode og_c_Model_name 23 = .ok (.aload_n 0, 1) := by decide +kernel
theorem d_Model_name_24 : decode og_c_Model_name 24 = .ok (.getfield 262, 3) := by decide +kernel
theorem d_Model_name_27 : decode og_c_Model_name 27 = .ok (.if_icmp .eq 10, 3) := by decide +kernel
theorem d_Model_name_30 : decode og_c_Model_name 30 = .ok (.aload_n 0, 1) := by decide +kernel
theorem d_Model_name_31 : decode og_c_Model_name 31 = .ok (.invokevirtual 289, 3) := by decide +kernel
theorem d_Model_name_34 : decode og_c_Model_name 34 = .ok (.ifCond .eq 14, 3) := by decide +kernel
theorem d_Model_name_37 : decode og_c_Model_name 37 = .ok (.aload_n 0, 1) := by decide +kernel
theorem d_Model_name_38 : decode og_c_Model_name 38 = .ok (.iconst 1, 1) := by decide +kernel
theorem d_Model_name_39 : decode og_c_Model_name 39 = .ok (.aload_n 0, 1) := by decide +kernel
theorem d_Model_name_40 : decode og_c_Model_name 40 = .ok (.getfield 248, 3) := by decide +kernel
theorem d_Model_name_43 : decode og_c_Model_name 43 = .ok (.invokevirtual 272, 3) := by decide +kernel
theorem d_Model_name_46 : decode og_c_Model_name 46 = .ok (.lconst 0, 1) := by decide +kernel
theorem d_Model_name_47 : decode og_c_Model_name 47 = .ok (.lreturn, 1) := by decide +kernel
theorem d_Model_name_48 : decode og_c_Model_name 48 = .ok (.aload_n 0, 1) := by decide +kernel
theorem d_Model_name_49 : decode og_c_Model_name 49 = .ok (.aload_n 0, 1) := by decide +kernel
theorem d_Model_name_50 : decode og_c_Model_name 50 = .ok (.getfield 248, 3) := by decide +kernel
theorem d_Model_name_53 : decode og_c_Model_name 53 = .ok (.putfield 293, 3) := by decide +kernel
theorem d_Model_name_56 : decode og_c_Model_name 56 = .ok (.lconst 0, 1) := by decide +kernel
theorem d_Model_name_57 : decode og_c_Model_name 57 = .ok (.lstore_n 1, 1) := by decide +kernel
theorem d_Model_name_58 : decode og_c_Model_name 58 = .ok (.aload_n 0, 1) := by decide +kernel
theorem d_Model_name_59 : decode og_c_Model_name 59 = .ok (.getfield 248, 3) := by decide +kernel
theorem d_Model_name_62 : decode og_c_Model_name 62 = .ok (.aload_n 0, 1) := by decide +kernel
theorem d_Model_name_63 : decode og_c_Model_name 63 = .ok (.getfield 251, 3) := by decide +kernel
theorem d_Model_name_66 : decode og_c_Model_name 66 = .ok (.if_icmp .ge 79, 3) := by decide +kernel
theorem d_Model_name_69 : decode og_c_Model_name 69 = .ok (.aload_n 0, 1) := by decide +kernel
theorem d_Model_name_70 : decode og_c_Model_name 70 = .ok (.getfield 7, 3) := by decide +kernel
theorem d_Model_name_73 : decode og_c_Model_name 73 = .ok (.aload_n 0, 1) := by decide +kernel
theorem d_Model_name_74 : decode og_c_Model_name 74 = .ok (.getfield 248, 3) := by decide +kernel
theorem d_Model_name_77 : decode og_c_Model_name 77 = .ok (.iaload, 1) := by decide +kernel
theorem d_Model_name_78 : decode og_c_Model_name 78 = .ok (.invokestatic 258, 3) := by decide +kernel
theorem d_Model_name_81 : decode og_c_Model_name 81 = .ok (.ifCond .eq 64, 3) := by decide +kernel
theorem d_Model_name_84 : decode og_c_Model_name 84 = .ok (.aload_n 0, 1) := by decide +kernel
theorem d_Model_name_85 : decode og_c_Model_name 85 = .ok (.getfield 248, 3) := by decide +kernel
theorem d_Model_name_88 : decode og_c_Model_name 88 = .ok (.aload_n 0, 1) := by decide +kernel
theorem d_Model_name_89 : decode og_c_Model_name 89 = .ok (.getfield 293, 3) := by decide +kernel
theorem d_Model_name_92 : decode og_c_Model_name 92 = .ok (.isub, 1) := by decide +kernel
theorem d_Model_name_93 : decode og_c_Model_name 93 = .ok (.bipush 6, 2) := by decide +kernel
theorem d_Model_name_95 : decode og_c_Model_name 95 = .ok (.if_icmp .ne 14, 3) := by decide +kernel
theorem d_Model_name_98 : decode og_c_Model_name 98 = .ok (.aload_n 0, 1) := by decide +kernel
theorem d_Model_name_99 : decode og_c_Model_name 99 = .ok (.iconst 1, 1) := by decide +kernel
theorem d_Model_name_100 : decode og_c_Model_name 100 = .ok (.aload_n 0, 1) := by decide +kernel
theorem d_Model_name_101 : decode og_c_Model_name 101 = .ok (.getfield 248, 3) := by decide +kernel
theorem d_Model_name_104 : decode og_c_Model_name 104 = .ok (.invokevirtual 272, 3) := by decide +kernel
theorem d_Model_name_107 : decode og_c_Model_name 107 = .ok (.lconst 0, 1) := by decide +kernel
theorem d_Model_name_108 : decode og_c_Model_name 108 = .ok (.lreturn, 1) := by decide +kernel
theorem d_Model_name_109 : decode og_c_Model_name 109 = .ok (.ldc2_w 296, 3) := by decide +kernel
theorem d_Model_name_112 : decode og_c_Model_name 112 = .ok (.lload_n 1, 1) := by decide +kernel
theorem d_Model_name_113 : decode og_c_Model_name 113 = .ok (.lmul, 1) := by decide +kernel
theorem d_Model_name_114 : decode og_c_Model_name 114 = .ok (.aload_n 0, 1) := by decide +kernel
theorem d_Model_name_115 : decode og_c_Model_name 115 = .ok (.getfield 7, 3) := by decide +kernel
theorem d_Model_name_118 : decode og_c_Model_name 118 = .ok (.aload_n 0, 1) := by decide +kernel
theorem d_Model_name_119 : decode og_c_Model_name 119 = .ok (.getfield 248, 3) := by decide +kernel
theorem d_Model_name_122 : decode og_c_Model_name 122 = .ok (.iaload, 1) := by decide +kernel
theorem d_Model_name_123 : decode og_c_Model_name 123 = .ok (.i2l, 1) := by decide +kernel
theorem d_Model_name_124 : decode og_c_Model_name 124 = .ok (.ladd, 1) := by decide +kernel
theorem d_Model_name_125 : decode og_c_Model_name 125 = .ok (.ldc2_w 298, 3) := by decide +kernel
theorem d_Model_name_128 : decode og_c_Model_name 128 = .ok (.lsub, 1) := by decide +kernel
theorem d_Model_name_129 : decode og_c_Model_name 129 = .ok (.lconst 1, 1) := by decide +kernel
theorem d_Model_name_130 : decode og_c_Model_name 130 = .ok (.ladd, 1) := by decide +kernel
theorem d_Model_name_131 : decode og_c_Model_name 131 = .ok (.lstore_n 1, 1) := by decide +kernel
theorem d_Model_name_132 : decode og_c_Model_name 132 = .ok (.aload_n 0, 1) := by decide +kernel
theorem d_Model_name_133 : decode og_c_Model_name 133 = .ok (.dup, 1) := by decide +kernel
theorem d_Model_name_134 : decode og_c_Model_name 134 = .ok (.getfield 248, 3) := by decide +kernel
theorem d_Model_name_137 : decode og_c_Model_name 137 = .ok (.iconst 1, 1) := by decide +kernel
theorem d_Model_name_138 : decode og_c_Model_name 138 = .ok (.iadd, 1) := by decide +kernel
theorem d_Model_name_139 : decode og_c_Model_name 139 = .ok (.putfield 248, 3) := by decide +kernel
theorem d_Model_name_142 : decode og_c_Model_name 142 = .ok (.goto (-84), 3) := by decide +kernel
theorem d_Model_name_145 : decode og_c_Model_name 145 = .ok (.aload_n 0, 1) := by decide +kernel
theorem d_Model_name_146 : decode og_c_Model_name 146 = .ok (.aload_n 0, 1) := by decide +kernel
theorem d_Model_name_147 : decode og_c_Model_name 147 = .ok (.getfield 248, 3) := by decide +kernel
theorem d_Model_name_150 : decode og_c_Model_name 150 = .ok (.putfield 262, 3) := by decide +kernel
theorem d_Model_name_153 : decode og_c_Model_name 153 = .ok (.lload_n 1, 1) := by decide +kernel
theorem d_Model_name_154 : decode og_c_Model_name 154 = .ok (.lreturn, 1) := by decide +kernel
def m_Model_name : og_Dn := og_den [17] 3 1 (og_seq (og_if (og_cc og_rne (og_get 5 (og_loc 0)) (og_k 0)) (og_ret (og_k 0)) (og_skip)) (og_seq (og_if (og_or (og_or (og_not (og_cb (og_call m_Model_isLetter [og_call m_Model_look [og_loc 0]]))) (og_cc og_req (og_get 2 (og_loc 0)) (og_get 4 (og_loc 0)))) (og_cb (og_call m_Model_isOwnHere [og_loc 0]))) (og_seq (og_exp (og_call m_Model_fail [og_loc 0, og_k 1, og_get 2 (og_loc 0)])) (og_ret (og_k 0))) (og_skip)) (og_seq (og_putf 36 (og_loc 0) (og_get 2 (og_loc 0))) (og_seq (og_set 1 (og_k 0)) (og_cut (og_while (og_and (og_cc og_rlt (og_get 2 (og_loc 0)) (og_get 3 (og_loc 0))) (og_cb (og_call m_Model_isLetter [og_ald 1600 (og_fix (fun _ => 1001) (og_loc 0)) (og_get 2 (og_loc 0))]))) (og_seq (og_if (og_cc og_req (og_sub (og_get 2 (og_loc 0)) (og_get 36 (og_loc 0))) (og_k 6)) (og_seq (og_exp (og_call m_Model_fail [og_loc 0, og_k 1, og_get 2 (og_loc 0)])) (og_ret (og_k 0))) (og_skip)) (og_seq (og_set 1 (og_ladd (og_lsub (og_ladd (og_lmul (og_k 27) (og_loc 1)) (og_i2l (og_ald 1600 (og_fix (fun _ => 1001) (og_loc 0)) (og_get 2 (og_loc 0))))) (og_k 97)) (og_k 1))) (og_pop32 og_padd 2 (og_loc 0) (og_k 1)))) (og_skip)) (og_seq (og_putf 4 (og_loc 0) (og_get 2 (og_loc 0))) (og_ret (og_loc 1))))))))
set_option maxRecDepth 20000 in
theorem ok_Model_name : og_MOK og_y_Model_name og_c_Model_name 3 1 4 [17] m_Model_name := og_method (b := 0) (lt' := []) (by decide +kernel) (by decide) (by decide) (og_sseq (og_sif (T := 7) (F := 9) (og_ccn og_n_ne (og_zeq (tgt := 9) (og_f_Model_bad (og_aload_n (i := 0) (t := 15) (j := 0) (by rfl) (by rfl) d_Model_name_0) og_w1148 d_Model_name_1) d_Model_name_4 (by decide))) (og_sretl (og_lconst (x := 0) d_Model_name_7) d_Model_name_8) (og_sskip)) (og_sseq (og_sif (T := 37) (F := 48) (og_cor (og_cor (og_cnot (og_cbeq (tgt := 37) (og_callSz (og_acons (og_callVi (og_acons (og_aload_n (i := 0) (t := 15) (j := 0) (by rfl) (by rfl) d_Model_name_9) (og_anil)) (by decide) ok_Model_look (v_Model_look (by decide)) og_w1464 d_Model_name_10) (og_anil)) (by decide) ok_Model_isLetter (v_Model_isLetter (by decide)) og_w1480 d_Model_name_13) d_Model_name_16 (by decide))) (og_ieq (tgt := 37) (og_f_Model_at (og_aload_n (i := 0) (t := 15) (j := 0) (by rfl) (by rfl) d_Model_name_19) og_w1145 d_Model_name_20) (og_f_Model_ended (og_aload_n (i := 0) (t := 15) (j := 0) (by rfl) (by rfl) d_Model_name_23) og_w1147 d_Model_name_24) d_Model_name_27 (by decide))) (og_cbeq (tgt := 48) (og_callVz (og_acons (og_aload_n (i := 0) (t := 15) (j := 0) (by rfl) (by rfl) d_Model_name_30) (og_anil)) (by decide) ok_Model_isOwnHere (v_Model_isOwnHere (by decide)) og_w1503 d_Model_name_31) d_Model_name_34 (by decide))) (og_sseq (og_callVv (og_acons (og_aload_n (i := 0) (t := 15) (j := 0) (by rfl) (by rfl) d_Model_name_37) (og_acons (og_iconst (by decide) d_Model_name_38) (og_acons (og_f_Model_at (og_aload_n (i := 0) (t := 15) (j := 0) (by rfl) (by rfl) d_Model_name_39) og_w1145 d_Model_name_40) (og_anil)))) ok_Model_fail (v_Model_fail (by decide)) og_w1491 d_Model_name_43) (og_sretl (og_lconst (x := 0) d_Model_name_46) d_Model_name_47)) (og_sskip)) (og_sseq (og_p_Model_namePlace (og_aload_n (i := 0) (t := 15) (j := 0) (by rfl) (by rfl) d_Model_name_48) (og_f_Model_at (og_aload_n (i := 0) (t := 15) (j := 0) (by rfl) (by rfl) d_Model_name_49) og_w1145 d_Model_name_50) og_w1179 d_Model_name_53) (og_sseq (og_lstore_n (i := 1) (lt' := [(0, 17), (1, 1)]) (og_lconst (x := 0) d_Model_name_56) (by rfl) (by decide) (by decide) d_Model_name_57) (og_scut (og_swhile (T := 84) (F := 145) (cp0 := 58) (og_cand (og_ccn og_n_lt (og_ige (tgt := 145) (og_f_Model_at (og_aload_n (i := 0) (t := 15) (j := 0) (by rfl) (by rfl) d_Model_name_58) og_w1145 d_Model_name_59) (og_f_Model_end (og_aload_n (i := 0) (t := 15) (j := 0) (by rfl) (by rfl) d_Model_name_62) og_w1146 d_Model_name_63) d_Model_name_66 (by decide))) (og_cbeq (tgt := 145) (og_callSz (og_acons (og_iald (N := 1600) (og_f_Model_tape (og_aload_n (i := 0) (t := 15) (j := 0) (by rfl) (by rfl) d_Model_name_69) og_w1143 d_Model_name_70) (by rfl) (og_f_Model_at (og_aload_n (i := 0) (t := 15) (j := 0) (by rfl) (by rfl) d_Model_name_73) og_w1145 d_Model_name_74) d_Model_name_77) (og_anil)) (by decide) ok_Model_isLetter (v_Model_isLetter (by decide)) og_w1480 d_Model_name_78) d_Model_name_81 (by decide))) (og_sseq (og_sif (T := 98) (F := 109) (og_ccn og_n_eq (og_ine (tgt := 109) (og_isub (og_f_Model_at (og_aload_n (i := 0) (t := 15) (j := 0) (by rfl) (by rfl) d_Model_name_84) og_w1145 d_Model_name_85) (og_f_Model_namePlace (og_aload_n (i := 0) (t := 15) (j := 0) (by rfl) (by rfl) d_Model_name_88) og_w1179 d_Model_name_89) d_Model_name_92) (og_bipush (by decide) d_Model_name_93) d_Model_name_95 (by decide))) (og_sseq (og_callVv (og_acons (og_aload_n (i := 0) (t := 15) (j := 0) (by rfl) (by rfl) d_Model_name_98) (og_acons (og_iconst (by decide) d_Model_name_99) (og_acons (og_f_Model_at (og_aload_n (i := 0) (t := 15) (j := 0) (by rfl) (by rfl) d_Model_name_100) og_w1145 d_Model_name_101) (og_anil)))) ok_Model_fail (v_Model_fail (by decide)) og_w1491 d_Model_name_104) (og_sretl (og_lconst (x := 0) d_Model_name_107) d_Model_name_108)) (og_sskip)) (og_sseq (og_lstore_n (i := 1) (lt' := [(0, 17), (1, 1)]) (og_ladd_ (og_lsub_ (og_ladd_ (og_lmul_ (og_ldc2 (x := 27) (by decide) og_w1507 d_Model_name_109) (og_lload_n (i := 1) (j := 1) (by rfl) (by rfl) d_Model_name_112) d_Model_name_113) (og_i2l_ (og_iald (N := 1600) (og_f_Model_tape (og_aload_n (i := 0) (t := 15) (j := 0) (by rfl) (by rfl) d_Model_name_114) og_w1143 d_Model_name_115) (by rfl) (og_f_Model_at (og_aload_n (i := 0) (t := 15) (j := 0) (by rfl) (by rfl) d_Model_name_118) og_w1145 d_Model_name_119) d_Model_name_122) d_Model_name_123) d_Model_name_124) (og_ldc2 (x := 97) (by decide) og_w1508 d_Model_name_125) d_Model_name_128) (og_lconst (x := 1) d_Model_name_129) d_Model_name_130) (by rfl) (by decide) (by decide) d_Model_name_131) (og_gS (b' := 58) (og_qadd_Model_at (og_aload_n (i := 0) (t := 15) (j := 0) (by rfl) (by rfl) d_Model_name_132) d_Model_name_133 d_Model_name_134 (og_iconst (by decide) d_Model_name_137) d_Model_name_138 og_w1145 d_Model_name_139) d_Model_name_142 (by decide)))) (og_sskip)) (og_sseq (og_p_Model_ended (og_aload_n (i := 0) (t := 15) (j := 0) (by rfl) (by rfl) d_Model_name_145) (og_f_Model_at (og_aload_n (i := 0) (t := 15) (j := 0) (by rfl) (by rfl) d_Model_name_146) og_w1145 d_Model_name_147) og_w1147 d_Model_name_150) (og_sretl (og_lload_n (i := 1) (j := 1) (by rfl) (by rfl) d_Model_name_153) d_Model_name_154))))))) (fun h => by cases h)
abbrev og_c_Model_kindOf : ByteArray := prog_14_method_18_code
abbrev og_y_Model_kindOf : MethodName := ⟨"OpenGravesModel", "kindOf", "(I)I"⟩
theorem v_Model_kindOf {dep : Nat} (h : 1 + 1 ≤ dep) : og_sS og_y_Model_kindOf og_c_Model_kindOf 1 0 1 dep 1 := ⟨og_w1532, og_w17, og_w1533, ⟨by decide +kernel, by decide +kernel, by decide +kernel⟩, h, by decide⟩
theorem d_Model_kindOf_0 : decode og_c_Model_kindOf 0 = .ok (.iload_n 0, 1) := by decide +kernel
theorem d_Model_kindOf_1 : decode og_c_Model_kindOf 1 = .ok (.iconst 1, 1) := by decide +kernel
theorem d_Model_kindOf_2 : decode og_c_Model_kindOf 2 = .ok (.if_icmp .ne 7, 3) := by decide +kernel
theorem d_Model_kindOf_5 : decode og_c_Model_kindOf 5 = .ok (.iconst 1, 1) := by decide +kernel
theorem d_Model_kindOf_6 : decode og_c_Model_kindOf 6 = .ok (.goto 13, 3) := by decide +kernel
theorem d_Model_kindOf_9 : decode og_c_Model_kindOf 9 = .ok (.iload_n 0, 1) := by decide +kernel
theorem d_Model_kindOf_10 : decode og_c_Model_kindOf 10 = .ok (.iconst 3, 1) := by decide +kernel
theorem d_Model_kindOf_11 : decode og_c_Model_kindOf 11 = .ok (.if_icmp .ne 7, 3) := by decide +kernel
theorem d_Model_kindOf_14 : decode og_c_Model_kindOf 14 = .ok (.iconst 2, 1) := by decide +kernel
theorem d_Model_kindOf_15 : decode og_c_Model_kindOf 15 = .ok (.goto 4, 3) := by decide +kernel
theorem d_Model_kindOf_18 : decode og_c_Model_kindOf 18 = .ok (.iconst 0, 1) := by decide +kernel
theorem d_Model_kindOf_19 : decode og_c_Model_kindOf 19 = .ok (.ireturn, 1) := by decide +kernel
def m_Model_kindOf : og_Dn := og_den [0] 1 0 (og_ret (og_ei (og_cc og_req (og_loc 0) (og_k 1)) (og_k 1) (og_ei (og_cc og_req (og_loc 0) (og_k 3)) (og_k 2) (og_k 0))))
set_option maxRecDepth 20000 in
theorem ok_Model_kindOf : og_MOK og_y_Model_kindOf og_c_Model_kindOf 1 0 1 [0] m_Model_kindOf := og_method (b := 0) (lt' := []) (by decide +kernel) (by decide) (by decide) (og_sreti (og_eite (og_ccn og_n_eq (og_ine (tgt := 9) (og_iload_n (i := 0) (j := 0) (by rfl) (by rfl) d_Model_kindOf_0) (og_iconst (by decide) d_Model_kindOf_1) d_Model_kindOf_2 (by decide))) (og_iconst (by decide) d_Model_kindOf_5) d_Model_kindOf_6 (by decide) (og_eite (og_ccn og_n_eq (og_ine (tgt := 18) (og_iload_n (i := 0) (j := 0) (by rfl) (by rfl) d_Model_kindOf_9) (og_iconst (by decide) d_Model_kindOf_10) d_Model_kindOf_11 (by decide))) (og_iconst (by decide) d_Model_kindOf_14) d_Model_kindOf_15 (by decide) (og_iconst (by decide) d_Model_kindOf_18))) d_Model_kindOf_19) (fun h => by cases h)
abbrev og_c_Model_isAllowed : ByteArray := prog_14_method_19_code
abbrev og_y_Model_isAllowed : MethodName := ⟨"OpenGravesModel", "isAllowed", "(I)Z"⟩
theorem v_Model_isAllowed {own : String} {idx dep : Nat} (h : 1 + 1 ≤ dep) : og_sV own idx og_y_Model_isAllowed og_c_Model_isAllowed 2 3 1 dep 13 1 := ⟨⟨12, og_sl_Model, og_T_Model, 102, rfl, by decide, rfl⟩, og_w1568, (og_memP (⟨"OpenGravesModel", "isAllowed", "(I)Z"⟩, 102) (List.mem_of_getElem? (i := 73) (by decide +kernel))), og_w17, og_w1569, ⟨by decide +kernel, by decide +kernel, by decide +kernel⟩, h, by decide⟩
theorem d_Model_isAllowed_0 : decode og_c_Model_isAllowed 0 = .ok (.aload_n 0, 1) := by decide +kernel
theorem d_Model_isAllowed_1 : decode og_c_Model_isAllowed 1 = .ok (.getfield 300, 3) := by decide +kernel
theorem d_Model_isAllowed_4 : decode og_c_Model_isAllowed 4 = .ok (.tableswitch 66 0 2 #[28, 39, 50], 28) := by decide +kernel
theorem d_Model_isAllowed_32 : decode og_c_Model_isAllowed 32 = .ok (.iload_n 1, 1) := by decide +kernel
theorem d_Model_isAllowed_33 : decode og_c_Model_isAllowed 33 = .ok (.iconst 4, 1) := by decide +kernel
theorem d_Model_isAllowed_34 : decode og_c_Model_isAllowed 34 = .ok (.if_icmp .ge 7, 3) := by decide +kernel
theorem d_Model_isAllowed_37 : decode og_c_Model_isAllowed 37 = .ok (.iconst 1, 1) := by decide +kernel
theorem d_Model_isAllowed_38 : decode og_c_Model_isAllowed 38 = .ok (.goto 4, 3) := by decide +kernel
theorem d_Model_isAllowed_41 : decode og_c_Model_isAllowed 41 = .ok (.iconst 0, 1) := by decide +kernel
theorem d_Model_isAllowed_42 : decode og_c_Model_isAllowed 42 = .ok (.ireturn, 1) := by decide +kernel
theorem d_Model_isAllowed_43 : decode og_c_Model_isAllowed 43 = .ok (.iload_n 1, 1) := by decide +kernel
theorem d_Model_isAllowed_44 : decode og_c_Model_isAllowed 44 = .ok (.iconst 5, 1) := by decide +kernel
theorem d_Model_isAllowed_45 : decode og_c_Model_isAllowed 45 = .ok (.if_icmp .ge 7, 3) := by decide +kernel
theorem d_Model_isAllowed_48 : decode og_c_Model_isAllowed 48 = .ok (.iconst 1, 1) := by decide +kernel
theorem d_Model_isAllowed_49 : decode og_c_Model_isAllowed 49 = .ok (.goto 4, 3) := by decide +kernel
theorem d_Model_isAllowed_52 : decode og_c_Model_isAllowed 52 = .ok (.iconst 0, 1) := by decide +kernel
theorem d_Model_isAllowed_53 : decode og_c_Model_isAllowed 53 = .ok (.ireturn, 1) := by decide +kernel
theorem d_Model_isAllowed_54 : decode og_c_Model_isAllowed 54 = .ok (.iload_n 1, 1) := by decide +kernel
theorem d_Model_isAllowed_55 : decode og_c_Model_isAllowed 55 = .ok (.iconst 4, 1) := by decide +kernel
theorem d_Model_isAllowed_56 : decode og_c_Model_isAllowed 56 = .ok (.if_icmp .lt 8, 3) := by decide +kernel
theorem d_Model_isAllowed_59 : decode og_c_Model_isAllowed 59 = .ok (.iload_n 1, 1) := by decide +kernel
theorem d_Model_isAllowed_60 : decode og_c_Model_isAllowed 60 = .ok (.iconst 5, 1) := by decide +kernel
theorem d_Model_isAllowed_61 : decode og_c_Model_isAllowed 61 = .ok (.if_icmp .ne 7, 3) := by decide +kernel
theorem d_Model_isAllowed_64 : decode og_c_Model_isAllowed 64 = .ok (.iconst 1, 1) := by decide +kernel
theorem d_Model_isAllowed_65 : decode og_c_Model_isAllowed 65 = .ok (.goto 4, 3) := by decide +kernel
theorem d_Model_isAllowed_68 : decode og_c_Model_isAllowed 68 = .ok (.iconst 0, 1) := by decide +kernel
theorem d_Model_isAllowed_69 : decode og_c_Model_isAllowed 69 = .ok (.ireturn, 1) := by decide +kernel
theorem d_Model_isAllowed_70 : decode og_c_Model_isAllowed 70 = .ok (.iload_n 1, 1) := by decide +kernel
theorem d_Model_isAllowed_71 : decode og_c_Model_isAllowed 71 = .ok (.iconst 4, 1) := by decide +kernel
theorem d_Model_isAllowed_72 : decode og_c_Model_isAllowed 72 = .ok (.if_icmp .lt 8, 3) := by decide +kernel
theorem d_Model_isAllowed_75 : decode og_c_Model_isAllowed 75 = .ok (.iload_n 1, 1) := by decide +kernel
theorem d_Model_isAllowed_76 : decode og_c_Model_isAllowed 76 = .ok (.iconst 5, 1) := by decide +kernel
theorem d_Model_isAllowed_77 : decode og_c_Model_isAllowed 77 = .ok (.if_icmp .le 7, 3) := by decide +kernel
theorem d_Model_isAllowed_80 : decode og_c_Model_isAllowed 80 = .ok (.iconst 1, 1) := by decide +kernel
theorem d_Model_isAllowed_81 : decode og_c_Model_isAllowed 81 = .ok (.goto 4, 3) := by decide +kernel
theorem d_Model_isAllowed_84 : decode og_c_Model_isAllowed 84 = .ok (.iconst 0, 1) := by decide +kernel
theorem d_Model_isAllowed_85 : decode og_c_Model_isAllowed 85 = .ok (.ireturn, 1) := by decide +kernel
def m_Model_isAllowed : og_Dn := og_den [17, 0] 2 3 (og_sw (og_get 48 (og_loc 0)) (fun x => og_cs x [0] (og_retz (og_ec (og_cc og_rlt (og_loc 1) (og_k 4)))) (og_cs x [1] (og_retz (og_ec (og_cc og_rlt (og_loc 1) (og_k 5)))) (og_cs x [2] (og_retz (og_ec (og_or (og_cc og_rlt (og_loc 1) (og_k 4)) (og_cc og_req (og_loc 1) (og_k 5))))) (og_retz (og_ec (og_or (og_cc og_rlt (og_loc 1) (og_k 4)) (og_cc og_rgt (og_loc 1) (og_k 5)))))))))
set_option maxRecDepth 20000 in
theorem ok_Model_isAllowed : og_MOK og_y_Model_isAllowed og_c_Model_isAllowed 2 3 1 [17, 0] m_Model_isAllowed := og_method (b := 0) (lt' := []) (by decide +kernel) (by decide) (by decide) (og_stab (b1 := 0) (d := 70) (cs := [(0, 32), (1, 43), (2, 54)]) (og_f_Model_textKind (og_aload_n (i := 0) (t := 15) (j := 0) (by rfl) (by rfl) d_Model_isAllowed_0) og_w1191 d_Model_isAllowed_1) d_Model_isAllowed_4 (by decide) (by decide) (fun x => og_scs (fun hx => og_sat (by simp at hx; subst hx; rfl) (og_sretz (og_econd (b := 0) (og_ccn og_n_lt (og_ige (tgt := 41) (og_iload_n (i := 1) (j := 1) (by rfl) (by rfl) d_Model_isAllowed_32) (og_iconst (by decide) d_Model_isAllowed_33) d_Model_isAllowed_34 (by decide))) d_Model_isAllowed_37 d_Model_isAllowed_38 (by decide) d_Model_isAllowed_41 (by rfl)) d_Model_isAllowed_42)) (fun hx => og_scs (fun hx => og_sat (by simp at hx; subst hx; rfl) (og_sretz (og_econd (b := 0) (og_ccn og_n_lt (og_ige (tgt := 52) (og_iload_n (i := 1) (j := 1) (by rfl) (by rfl) d_Model_isAllowed_43) (og_iconst (by decide) d_Model_isAllowed_44) d_Model_isAllowed_45 (by decide))) d_Model_isAllowed_48 d_Model_isAllowed_49 (by decide) d_Model_isAllowed_52 (by rfl)) d_Model_isAllowed_53)) (fun hx => og_scs (fun hx => og_sat (by simp at hx; subst hx; rfl) (og_sretz (og_econd (b := 0) (og_cor (og_ilt (tgt := 64) (og_iload_n (i := 1) (j := 1) (by rfl) (by rfl) d_Model_isAllowed_54) (og_iconst (by decide) d_Model_isAllowed_55) d_Model_isAllowed_56 (by decide)) (og_ccn og_n_eq (og_ine (tgt := 68) (og_iload_n (i := 1) (j := 1) (by rfl) (by rfl) d_Model_isAllowed_59) (og_iconst (by decide) d_Model_isAllowed_60) d_Model_isAllowed_61 (by decide)))) d_Model_isAllowed_64 d_Model_isAllowed_65 (by decide) d_Model_isAllowed_68 (by rfl)) d_Model_isAllowed_69)) (fun hx => og_sat (og_lkn (by simp_all)) (og_sretz (og_econd (b := 0) (og_cor (og_ilt (tgt := 80) (og_iload_n (i := 1) (j := 1) (by rfl) (by rfl) d_Model_isAllowed_70) (og_iconst (by decide) d_Model_isAllowed_71) d_Model_isAllowed_72 (by decide)) (og_ccn og_n_gt (og_ile (tgt := 84) (og_iload_n (i := 1) (j := 1) (by rfl) (by rfl) d_Model_isAllowed_75) (og_iconst (by decide) d_Model_isAllowed_76) d_Model_isAllowed_77 (by decide)))) d_Model_isAllowed_80 d_Model_isAllowed_81 (by decide) d_Model_isAllowed_84 (by rfl)) d_Model_isAllowed_85)))))) (fun h => by cases h)
abbrev og_c_Model_isFull : ByteArray := prog_14_method_20_code
abbrev og_y_Model_isFull : MethodName := ⟨"OpenGravesModel", "isFull", "(III)Z"⟩
theorem v_Model_isFull {own : String} {idx dep : Nat} (h : 2 + 1 ≤ dep) : og_sV own idx og_y_Model_isFull og_c_Model_isFull 4 3 2 dep 13 3 := ⟨⟨12, og_sl_Model, og_T_Model, 102, rfl, by decide, rfl⟩, og_w1489, (og_memP (⟨"OpenGravesModel", "isFull", "(III)Z"⟩, 102) (List.mem_of_getElem? (i := 56) (by decide +kernel))), og_w17, og_w1490, ⟨by decide +kernel, by decide +kernel, by decide +kernel⟩, h, by decide⟩
theorem d_Model_isFull_0 : decode og_c_Model_isFull 0 = .ok (.aload_n 0, 1) := by decide +kernel
theorem d_Model_isFull_1 : decode og_c_Model_isFull 1 = .ok (.getfield 242, 3) := by decide +kernel
theorem d_Model_isFull_4 : decode og_c_Model_isFull 4 = .ok (.ifCond .ne 19, 3) := by decide +kernel
theorem d_Model_isFull_7 : decode og_c_Model_isFull 7 = .ok (.aload_n 0, 1) := by decide +kernel
theorem d_Model_isFull_8 : decode og_c_Model_isFull 8 = .ok (.getfield 96, 3) := by decide +kernel
theorem d_Model_isFull_11 : decode og_c_Model_isFull 11 = .ok (.iload_n 1, 1) := by decide +kernel
theorem d_Model_isFull_12 : decode og_c_Model_isFull 12 = .ok (.iaload, 1) := by decide +kernel
theorem d_Model_isFull_13 : decode og_c_Model_isFull 13 = .ok (.iload_n 2, 1) := by decide +kernel
theorem d_Model_isFull_14 : decode og_c_Model_isFull 14 = .ok (.if_icmp .ne 9, 3) := by decide +kernel
theorem d_Model_isFull_17 : decode og_c_Model_isFull 17 = .ok (.aload_n 0, 1) := by decide +kernel
theorem d_Model_isFull_18 : decode og_c_Model_isFull 18 = .ok (.iconst 5, 1) := by decide +kernel
theorem d_Model_isFull_19 : decode og_c_Model_isFull 19 = .ok (.iload_n 3, 1) := by decide +kernel
theorem d_Model_isFull_20 : decode og_c_Model_isFull 20 = .ok (.invokevirtual 272, 3) := by decide +kernel
theorem d_Model_isFull_23 : decode og_c_Model_isFull 23 = .ok (.aload_n 0, 1) := by decide +kernel
theorem d_Model_isFull_24 : decode og_c_Model_isFull 24 = .ok (.getfield 242, 3) := by decide +kernel
theorem d_Model_isFull_27 : decode og_c_Model_isFull 27 = .ok (.ifCond .eq 7, 3) := by decide +kernel
theorem d_Model_isFull_30 : decode og_c_Model_isFull 30 = .ok (.iconst 1, 1) := by decide +kernel
theorem d_Model_isFull_31 : decode og_c_Model_isFull 31 = .ok (.goto 4, 3) := by decide +kernel
theorem d_Model_isFull_34 : decode og_c_Model_isFull 34 = .ok (.iconst 0, 1) := by decide +kernel
theorem d_Model_isFull_35 : decode og_c_Model_isFull 35 = .ok (.ireturn, 1) := by decide +kernel
def m_Model_isFull : og_Dn := og_den [17, 0, 0, 0] 4 3 (og_cut (og_if (og_and (og_cc og_req (og_get 5 (og_loc 0)) (og_k 0)) (og_cc og_req (og_ald 4 (og_fix (fun _ => 1028) (og_loc 0)) (og_loc 1)) (og_loc 2))) (og_exp (og_call m_Model_fail [og_loc 0, og_k 5, og_loc 3])) (og_skip)) (og_retz (og_ec (og_cc og_rne (og_get 5 (og_loc 0)) (og_k 0)))))
set_option maxRecDepth 20000 in
theorem ok_Model_isFull : og_MOK og_y_Model_isFull og_c_Model_isFull 4 3 2 [17, 0, 0, 0] m_Model_isFull := og_method (b := 0) (lt' := []) (by decide +kernel) (by decide) (by decide) (og_scut (og_sif (T := 17) (F := 23) (og_cand (og_ccn og_n_eq (og_zne (tgt := 23) (og_f_Model_bad (og_aload_n (i := 0) (t := 15) (j := 0) (by rfl) (by rfl) d_Model_isFull_0) og_w1148 d_Model_isFull_1) d_Model_isFull_4 (by decide))) (og_ccn og_n_eq (og_ine (tgt := 23) (og_iald (N := 4) (og_f_Model_many (og_aload_n (i := 0) (t := 15) (j := 0) (by rfl) (by rfl) d_Model_isFull_7) og_w1180 d_Model_isFull_8) (by rfl) (og_iload_n (i := 1) (j := 1) (by rfl) (by rfl) d_Model_isFull_11) d_Model_isFull_12) (og_iload_n (i := 2) (j := 2) (by rfl) (by rfl) d_Model_isFull_13) d_Model_isFull_14 (by decide)))) (og_callVv (og_acons (og_aload_n (i := 0) (t := 15) (j := 0) (by rfl) (by rfl) d_Model_isFull_17) (og_acons (og_iconst (by decide) d_Model_isFull_18) (og_acons (og_iload_n (i := 3) (j := 3) (by rfl) (by rfl) d_Model_isFull_19) (og_anil)))) ok_Model_fail (v_Model_fail (by decide)) og_w1491 d_Model_isFull_20) (og_sskip)) (og_sretz (og_econd (b := 0) (og_ccn og_n_ne (og_zeq (tgt := 34) (og_f_Model_bad (og_aload_n (i := 0) (t := 15) (j := 0) (by rfl) (by rfl) d_Model_isFull_23) og_w1148 d_Model_isFull_24) d_Model_isFull_27 (by decide))) d_Model_isFull_30 d_Model_isFull_31 (by decide) d_Model_isFull_34 (by rfl)) d_Model_isFull_35)) (fun h => by cases h)
abbrev og_c_Model_newName : ByteArray := prog_14_method_21_code
abbrev og_y_Model_newName : MethodName := ⟨"OpenGravesModel", "newName", "()J"⟩
theorem v_Model_newName {own : String} {idx dep : Nat} (h : 5 + 1 ≤ dep) : og_sV own idx og_y_Model_newName og_c_Model_newName 5 1 5 dep 13 0 := ⟨⟨12, og_sl_Model, og_T_Model, 102, rfl, by decide, rfl⟩, og_w1497, (og_memP (⟨"OpenGravesModel", "newName", "()J"⟩, 102) (List.mem_of_getElem? (i := 58) (by decide +kernel))), og_w17, og_w1498, ⟨by decide +kernel, by decide +kernel, by decide +kernel⟩, h, by decide⟩
theorem d_Model_newName_0 : decode og_c_Model_newName 0 = .ok (.aload_n 0, 1) := by decide +kernel
theorem d_Model_newName_1 : decode og_c_Model_newName 1 = .ok (.invokevirtual 303, 3) := by decide +kernel
theorem d_Model_newName_4 : decode og_c_Model_newName 4 = .ok (.lstore_n 1, 1) := by decide +kernel
theorem d_Model_newName_5 : decode og_c_Model_newName 5 = .ok (.iconst 0, 1) := by decide +kernel
theorem d_Model_newName_6 : decode og_c_Model_newName 6 = .ok (.istore_n 3, 1) := by decide +kernel
theorem d_Model_newName_7 : decode og_c_Model_newName 7 = .ok (.iload_n 3, 1) := by decide +kernel
theorem d_Model_newName_8 : decode og_c_Model_newName 8 = .ok (.iconst 2, 1) := by decide +kernel
theorem d_Model_newName_9 : decode og_c_Model_newName 9 = .ok (.if_icmp .ge 62, 3) := by decide +kernel
theorem d_Model_newName_12 : decode og_c_Model_newName 12 = .ok (.iconst 0, 1) := by decide +kernel
theorem d_Model_newName_13 : decode og_c_Model_newName 13 = .ok (.istore 4, 2) := by decide +kernel
theorem d_Model_newName_15 : decode og_c_Model_newName 15 = .ok (.iload 4, 2) := by decide +kernel
theorem d_Model_newName_17 : decode og_c_Model_newName 17 = .ok (.aload_n 0, 1) := by decide +kernel
theorem d_Model_newName_18 : decode og_c_Model_newName 18 = .ok (.getfield 96, 3) := by decide +kernel
theorem d_Model_newName_21 : decode og_c_Model_newName 21 = .ok (.iload_n 3, 1) := by decide +kernel
theorem d_Model_newName_22 : decode og_c_Model_newName 22 = .ok (.iaload, 1) := by decide +kernel
theorem d_Model_newName_23 : decode og_c_Model_newName 23 = .ok (.if_icmp .ge 42, 3) := by decide +kernel
theorem d_Model_newName_26 : decode og_c_Model_newName 26 = .ok (.aload_n 0, 1) := by decide +kernel
theorem d_Model_newName_27 : decode og_c_Model_newName 27 = .ok (.getfield 242, 3) := by decide +kernel
theorem d_Model_newName_30 : decode og_c_Model_newName 30 = .ok (.ifCond .ne 29, 3) := by decide +kernel
theorem d_Model_newName_33 : decode og_c_Model_newName 33 = .ok (.aload_n 0, 1) := by decide +kernel
theorem d_Model_newName_34 : decode og_c_Model_newName 34 = .ok (.getfield 99, 3) := by decide +kernel
theorem d_Model_newName_37 : decode og_c_Model_newName 37 = .ok (.bipush 8, 2) := by decide +kernel
theorem d_Model_newName_39 : decode og_c_Model_newName 39 = .ok (.iload_n 3, 1) := by decide +kernel
theorem d_Model_newName_40 : decode og_c_Model_newName 40 = .ok (.imul, 1) := by decide +kernel
theorem d_Model_newName_41 : decode og_c_Model_newName 41 = .ok (.iload 4, 2) := by decide +kernel
theorem d_Model_newName_43 : decode og_c_Model_newName 43 = .ok (.iadd, 1) := by decide +kernel
theorem d_Model_newName_44 : decode og_c_Model_newName 44 = .ok (.laload, 1) := by decide +kernel
theorem d_Model_newName_45 : decode og_c_Model_newName 45 = .ok (.lload_n 1, 1) := by decide +kernel
theorem d_Model_newName_46 : decode og_c_Model_newName 46 = .ok (.lcmp, 1) := by decide +kernel
theorem d_Model_newName_47 : decode og_c_Model_newName 47 = .ok (.ifCond .ne 12, 3) := by decide +kernel
theorem d_Model_newName_50 : decode og_c_Model_newName 50 = .ok (.aload_n 0, 1) := by decide +kernel
theorem d_Model_newName_51 : decode og_c_Model_newName 51 = .ok (.iconst 3, 1) := by decide +kernel
theorem d_Model_newName_52 : decode og_c_Model_newName 52 = .ok (.aload_n 0, 1) := by decide +kernel
theorem d_Model_newName_53 : decode og_c_Model_newName 53 = .ok (.getfield 293, 3) := by decide +kernel
theorem d_Model_newName_56 : decode og_c_Model_newName 56 = .ok (.invokevirtual 272, 3) := by decide +kernel
theorem d_Model_newName_59 : decode og_c_Model_newName 59 = .ok (.iinc 4 1, 3) := by decide +kernel
theorem d_Model_newName_62 : decode og_c_Model_newName 62 = .ok (.goto (-47), 3) := by decide +kernel
theorem d_Model_newName_65 : decode og_c_Model_newName 65 = .ok (.iinc 3 1, 3) := by decide +kernel
theorem d_Model_newName_68 : decode og_c_Model_newName 68 = .ok (.goto (-61), 3) := by decide +kernel
theorem d_Model_newName_71 : decode og_c_Model_newName 71 = .ok (.lload_n 1, 1) := by decide +kernel
theorem d_Model_newName_72 : decode og_c_Model_newName 72 = .ok (.lreturn, 1) := by decide +kernel
def m_Model_newName : og_Dn := og_den [17] 5 1 (og_seq (og_set 1 (og_call m_Model_name [og_loc 0])) (og_cut (og_seq (og_set 3 (og_k 0)) (og_while (og_cc og_rlt (og_loc 3) (og_k 2)) (og_seq (og_set 4 (og_k 0)) (og_while (og_cc og_rlt (og_loc 4) (og_ald 4 (og_fix (fun _ => 1028) (og_loc 0)) (og_loc 3))) (og_if (og_and (og_cc og_req (og_get 5 (og_loc 0)) (og_k 0)) (og_cc og_req (og_ald 32 (og_fix (fun _ => 1029) (og_loc 0)) (og_add (og_mul (og_k 8) (og_loc 3)) (og_loc 4))) (og_loc 1))) (og_exp (og_call m_Model_fail [og_loc 0, og_k 3, og_get 36 (og_loc 0)])) (og_skip)) (og_inc 4 1))) (og_inc 3 1))) (og_ret (og_loc 1))))
set_option maxRecDepth 20000 in
theorem ok_Model_newName : og_MOK og_y_Model_newName og_c_Model_newName 5 1 5 [17] m_Model_newName := og_method (b := 0) (lt' := []) (by decide +kernel) (by decide) (by decide) (og_sseq (og_lstore_n (i := 1) (lt' := [(0, 17), (1, 1)]) (og_callVl (og_acons (og_aload_n (i := 0) (t := 15) (j := 0) (by rfl) (by rfl) d_Model_newName_0) (og_anil)) (by decide) ok_Model_name (v_Model_name (by decide)) og_w1499 d_Model_newName_1) (by rfl) (by decide) (by decide) d_Model_newName_4) (og_scut (og_sdrop (lt' := [(0, 17), (1, 1), (3, 0)]) (lt2 := [(0, 17), (1, 1)]) (og_sseq (og_istore_n (i := 3) (lt' := [(0, 17), (1, 1), (3, 0)]) (og_iconst (by decide) d_Model_newName_5) (by rfl) (by decide) (by decide) d_Model_newName_6) (og_swhile (T := 12) (F := 71) (cp0 := 65) (og_ccn og_n_lt (og_ige (tgt := 71) (og_iload_n (i := 3) (j := 2) (by rfl) (by rfl) d_Model_newName_7) (og_iconst (by decide) d_Model_newName_8) d_Model_newName_9 (by decide))) (og_sdrop (lt' := [(0, 17), (1, 1), (3, 0), (4, 0)]) (lt2 := [(0, 17), (1, 1), (3, 0)]) (og_sseq (og_istore (i := 4) (lt' := [(0, 17), (1, 1), (3, 0), (4, 0)]) (og_iconst (by decide) d_Model_newName_12) (by decide) (by decide) d_Model_newName_13) (og_swhile (T := 26) (F := 65) (cp0 := 59) (og_ccn og_n_lt (og_ige (tgt := 65) (og_iload (i := 4) (j := 3) (by rfl) d_Model_newName_15) (og_iald (N := 4) (og_f_Model_many (og_aload_n (i := 0) (t := 15) (j := 0) (by rfl) (by rfl) d_Model_newName_17) og_w1180 d_Model_newName_18) (by rfl) (og_iload_n (i := 3) (j := 2) (by rfl) (by rfl) d_Model_newName_21) d_Model_newName_22) d_Model_newName_23 (by decide))) (og_sif (T := 50) (F := 59) (og_cand (og_ccn og_n_eq (og_zne (tgt := 59) (og_f_Model_bad (og_aload_n (i := 0) (t := 15) (j := 0) (by rfl) (by rfl) d_Model_newName_26) og_w1148 d_Model_newName_27) d_Model_newName_30 (by decide))) (og_ccn og_n_eq (og_lne (tgt := 59) (og_lald (N := 32) (og_f_Model_names (og_aload_n (i := 0) (t := 15) (j := 0) (by rfl) (by rfl) d_Model_newName_33) og_w1181 d_Model_newName_34) (by rfl) (og_iadd (og_imul (og_bipush (by decide) d_Model_newName_37) (og_iload_n (i := 3) (j := 2) (by rfl) (by rfl) d_Model_newName_39) d_Model_newName_40) (og_iload (i := 4) (j := 3) (by rfl) d_Model_newName_41) d_Model_newName_43) d_Model_newName_44) (og_lload_n (i := 1) (j := 1) (by rfl) (by rfl) d_Model_newName_45) d_Model_newName_46 d_Model_newName_47 (by decide)))) (og_callVv (og_acons (og_aload_n (i := 0) (t := 15) (j := 0) (by rfl) (by rfl) d_Model_newName_50) (og_acons (og_iconst (by decide) d_Model_newName_51) (og_acons (og_f_Model_namePlace (og_aload_n (i := 0) (t := 15) (j := 0) (by rfl) (by rfl) d_Model_newName_52) og_w1179 d_Model_newName_53) (og_anil)))) ok_Model_fail (v_Model_fail (by decide)) og_w1491 d_Model_newName_56) (og_sskip)) (og_gS (b' := 15) (og_iinc (j := 3) (lt' := [(0, 17), (1, 1), (3, 0), (4, 0)]) (by rfl) (by decide) (by decide) d_Model_newName_59) d_Model_newName_62 (by decide)))) (by decide)) (og_gS (b' := 7) (og_iinc (j := 2) (lt' := [(0, 17), (1, 1), (3, 0)]) (by rfl) (by decide) (by decide) d_Model_newName_65) d_Model_newName_68 (by decide)))) (by decide)) (og_sretl (og_lload_n (i := 1) (j := 1) (by rfl) (by rfl) d_Model_newName_71) d_Model_newName_72))) (fun h => by cases h)
abbrev og_c_Model_graveTold : ByteArray := prog_14_method_22_code
abbrev og_y_Model_graveTold : MethodName := ⟨"OpenGravesModel", "graveTold", "(I)V"⟩
theorem v_Model_graveTold {own : String} {idx dep : Nat} (h : 6 + 1 ≤ dep) : og_sV own idx og_y_Model_graveTold og_c_Model_graveTold 8 2 6 dep 13 1 := ⟨⟨12, og_sl_Model, og_T_Model, 102, rfl, by decide, rfl⟩, og_w1485, (og_memP (⟨"OpenGravesModel", "graveTold", "(I)V"⟩, 102) (List.mem_of_getElem? (i := 55) (by decide +kernel))), og_w17, og_w1486, ⟨by decide +kernel, by decide +kernel, by decide +kernel⟩, h, by decide⟩
theorem d_Model_graveTold_0 : decode og_c_Model_graveTold 0 = .ok (.aload_n 0, 1) := by decide +kernel
theorem d_Model_graveTold_1 : decode og_c_Model_graveTold 1 = .ok (.iconst 0, 1) := by decide +kernel
theorem d_Model_graveTold_2 : decode og_c_Model_graveTold 2 = .ok (.bipush 6, 2) := by decide +kernel
theorem d_Model_graveTold_4 : decode og_c_Model_graveTold 4 = .ok (.iload_n 1, 1) := by decide +kernel
theorem d_Model_graveTold_5 : decode og_c_Model_graveTold 5 = .ok (.invokevirtual 307, 3) := by decide +kernel
theorem d_Model_graveTold_8 : decode og_c_Model_graveTold 8 = .ok (.ifCond .eq 4, 3) := by decide +kernel
theorem d_Model_graveTold_11 : decode og_c_Model_graveTold 11 = .ok (.return_, 1) := by decide +kernel
theorem d_Model_graveTold_12 : decode og_c_Model_graveTold 12 = .ok (.aload_n 0, 1) := by decide +kernel
theorem d_Model_graveTold_13 : decode og_c_Model_graveTold 13 = .ok (.invokevirtual 311, 3) := by decide +kernel
theorem d_Model_graveTold_16 : decode og_c_Model_graveTold 16 = .ok (.lstore_n 2, 1) := by decide +kernel
theorem d_Model_graveTold_17 : decode og_c_Model_graveTold 17 = .ok (.aload_n 0, 1) := by decide +kernel
theorem d_Model_graveTold_18 : decode og_c_Model_graveTold 18 = .ok (.aload_n 0, 1) := by decide +kernel
theorem d_Model_graveTold_19 : decode og_c_Model_graveTold 19 = .ok (.getfield 24, 3) := by decide +kernel
theorem d_Model_graveTold_22 : decode og_c_Model_graveTold 22 = .ok (.invokevirtual 314, 3) := by decide +kernel
theorem d_Model_graveTold_25 : decode og_c_Model_graveTold 25 = .ok (.aload_n 0, 1) := by decide +kernel
theorem d_Model_graveTold_26 : decode og_c_Model_graveTold 26 = .ok (.iconst 1, 1) := by decide +kernel
theorem d_Model_graveTold_27 : decode og_c_Model_graveTold 27 = .ok (.bipush 9, 2) := by decide +kernel
theorem d_Model_graveTold_29 : decode og_c_Model_graveTold 29 = .ok (.invokevirtual 318, 3) := by decide +kernel
theorem d_Model_graveTold_32 : decode og_c_Model_graveTold 32 = .ok (.istore 4, 2) := by decide +kernel
theorem d_Model_graveTold_34 : decode og_c_Model_graveTold 34 = .ok (.aload_n 0, 1) := by decide +kernel
theorem d_Model_graveTold_35 : decode og_c_Model_graveTold 35 = .ok (.aload_n 0, 1) := by decide +kernel
theorem d_Model_graveTold_36 : decode og_c_Model_graveTold 36 = .ok (.getfield 27, 3) := by decide +kernel
theorem d_Model_graveTold_39 : decode og_c_Model_graveTold 39 = .ok (.invokevirtual 314, 3) := by decide +kernel
theorem d_Model_graveTold_42 : decode og_c_Model_graveTold 42 = .ok (.aload_n 0, 1) := by decide +kernel
theorem d_Model_graveTold_43 : decode og_c_Model_graveTold 43 = .ok (.iconst 0, 1) := by decide +kernel
theorem d_Model_graveTold_44 : decode og_c_Model_graveTold 44 = .ok (.bipush 9, 2) := by decide +kernel
theorem d_Model_graveTold_46 : decode og_c_Model_graveTold 46 = .ok (.invokevirtual 318, 3) := by decide +kernel
theorem d_Model_graveTold_49 : decode og_c_Model_graveTold 49 = .ok (.istore 5, 2) := by decide +kernel
theorem d_Model_graveTold_51 : decode og_c_Model_graveTold 51 = .ok (.aload_n 0, 1) := by decide +kernel
theorem d_Model_graveTold_52 : decode og_c_Model_graveTold 52 = .ok (.aload_n 0, 1) := by decide +kernel
theorem d_Model_graveTold_53 : decode og_c_Model_graveTold 53 = .ok (.getfield 30, 3) := by decide +kernel
theorem d_Model_graveTold_56 : decode og_c_Model_graveTold 56 = .ok (.invokevirtual 314, 3) := by decide +kernel
theorem d_Model_graveTold_59 : decode og_c_Model_graveTold 59 = .ok (.aload_n 0, 1) := by decide +kernel
theorem d_Model_graveTold_60 : decode og_c_Model_graveTold 60 = .ok (.iconst 1, 1) := by decide +kernel
theorem d_Model_graveTold_61 : decode og_c_Model_graveTold 61 = .ok (.bipush 30, 2) := by decide +kernel
theorem d_Model_graveTold_63 : decode og_c_Model_graveTold 63 = .ok (.invokevirtual 318, 3) := by decide +kernel
theorem d_Model_graveTold_66 : decode og_c_Model_graveTold 66 = .ok (.istore 6, 2) := by decide +kernel
theorem d_Model_graveTold_68 : decode og_c_Model_graveTold 68 = .ok (.aload_n 0, 1) := by decide +kernel
theorem d_Model_graveTold_69 : decode og_c_Model_graveTold 69 = .ok (.getfield 242, 3) := by decide +kernel
theorem d_Model_graveTold_72 : decode og_c_Model_graveTold 72 = .ok (.ifCond .eq 4, 3) := by decide +kernel
theorem d_Model_graveTold_75 : decode og_c_Model_graveTold 75 = .ok (.return_, 1) := by decide +kernel
theorem d_Model_graveTold_76 : decode og_c_Model_graveTold 76 = .ok (.aload_n 0, 1) := by decide +kernel
theorem d_Model_graveTold_77 : decode og_c_Model_graveTold 77 = .ok (.getfield 96, 3) := by decide +kernel
theorem d_Model_graveTold_80 : decode og_c_Model_graveTold 80 = .ok (.iconst 0, 1) := by decide +kernel
theorem d_Model_graveTold_81 : decode og_c_Model_graveTold 81 = .ok (.iaload, 1) := by decide +kernel
theorem d_Model_graveTold_82 : decode og_c_Model_graveTold 82 = .ok (.istore 7, 2) := by decide +kernel
theorem d_Model_graveTold_84 : decode og_c_Model_graveTold 84 = .ok (.aload_n 0, 1) := by decide +kernel
theorem d_Model_graveTold_85 : decode og_c_Model_graveTold 85 = .ok (.getfield 99, 3) := by decide +kernel
theorem d_Model_graveTold_88 : decode og_c_Model_graveTold 88 = .ok (.iload 7, 2) := by decide +kernel
theorem d_Model_graveTold_90 : decode og_c_Model_graveTold 90 = .ok (.lload_n 2, 1) := by decide +kernel
theorem d_Model_graveTold_91 : decode og_c_Model_graveTold 91 = .ok (.lastore, 1) := by decide +kernel
theorem d_Model_graveTold_92 : decode og_c_Model_graveTold 92 = .ok (.aload_n 0, 1) := by decide +kernel
theorem d_Model_graveTold_93 : decode og_c_Model_graveTold 93 = .ok (.getfield 103, 3) := by decide +kernel
theorem d_Model_graveTold_96 : decode og_c_Model_graveTold 96 = .ok (.iload 7, 2) := by decide +kernel
theorem d_Model_graveTold_98 : decode og_c_Model_graveTold 98 = .ok (.iload 4, 2) := by decide +kernel
theorem d_Model_graveTold_100 : decode og_c_Model_graveTold 100 = .ok (.iastore, 1) := by decide +kernel
theorem d_Model_graveTold_101 : decode og_c_Model_graveTold 101 = .ok (.aload_n 0, 1) := by decide +kernel
theorem d_Model_graveTold_102 : decode og_c_Model_graveTold 102 = .ok (.getfield 109, 3) := by decide +kernel
theorem d_Model_graveTold_105 : decode og_c_Model_graveTold 105 = .ok (.iconst 2, 1) := by decide +kernel
theorem d_Model_graveTold_106 : decode og_c_Model_graveTold 106 = .ok (.iload 7, 2) := by decide +kernel
theorem d_Model_graveTold_108 : decode og_c_Model_graveTold 108 = .ok (.imul, 1) := by decide +kernel
theorem d_Model_graveTold_109 : decode og_c_Model_graveTold 109 = .ok (.iload 5, 2) := by decide +kernel
theorem d_Model_graveTold_111 : decode og_c_Model_graveTold 111 = .ok (.iastore, 1) := by decide +kernel
theorem d_Model_graveTold_112 : decode og_c_Model_graveTold 112 = .ok (.aload_n 0, 1) := by decide +kernel
theorem d_Model_graveTold_113 : decode og_c_Model_graveTold 113 = .ok (.getfield 109, 3) := by decide +kernel
theorem d_Model_graveTold_116 : decode og_c_Model_graveTold 116 = .ok (.iconst 2, 1) := by decide +kernel
theorem d_Model_graveTold_117 : decode og_c_Model_graveTold 117 = .ok (.iload 7, 2) := by decide +kernel
theorem d_Model_graveTold_119 : decode og_c_Model_graveTold 119 = .ok (.imul, 1) := by decide +kernel
theorem d_Model_graveTold_120 : decode og_c_Model_graveTold 120 = .ok (.iconst 1, 1) := by decide +kernel
theorem d_Model_graveTold_121 : decode og_c_Model_graveTold 121 = .ok (.iadd, 1) := by decide +kernel
theorem d_Model_graveTold_122 : decode og_c_Model_graveTold 122 = .ok (.iload 6, 2) := by decide +kernel
theorem d_Model_graveTold_124 : decode og_c_Model_graveTold 124 = .ok (.iastore, 1) := by decide +kernel
theorem d_Model_graveTold_125 : decode og_c_Model_graveTold 125 = .ok (.aload_n 0, 1) := by decide +kernel
theorem d_Model_graveTold_126 : decode og_c_Model_graveTold 126 = .ok (.getfield 96, 3) := by decide +kernel
theorem d_Model_graveTold_129 : decode og_c_Model_graveTold 129 = .ok (.iconst 0, 1) := by decide +kernel
theorem d_Model_graveTold_130 : decode og_c_Model_graveTold 130 = .ok (.dup2, 1) := by decide +kernel
theorem d_Model_graveTold_131 : decode og_c_Model_graveTold 131 = .ok (.iaload, 1) := by decide +kernel
theorem d_Model_graveTold_132 : decode og_c_Model_graveTold 132 = .ok (.iconst 1, 1) := by decide +kernel
theorem d_Model_graveTold_133 : decode og_c_Model_graveTold 133 = .ok (.iadd, 1) := by decide +kernel
theorem d_Model_graveTold_134 : decode og_c_Model_graveTold 134 = .ok (.iastore, 1) := by decide +kernel
theorem d_Model_graveTold_135 : decode og_c_Model_graveTold 135 = .ok (.return_, 1) := by decide +kernel
def m_Model_graveTold : og_Dn := og_den [17, 0] 8 2 (og_seq (og_if (og_cb (og_call m_Model_isFull [og_loc 0, og_k 0, og_k 6, og_loc 1])) (og_retv) (og_skip)) (og_seq (og_set 2 (og_call m_Model_newName [og_loc 0])) (og_seq (og_exp (og_call m_Model_asks [og_loc 0, og_fix (fun _ => 1004) (og_loc 0)])) (og_seq (og_set 4 (og_call m_Model_number [og_loc 0, og_k 1, og_k 9])) (og_seq (og_exp (og_call m_Model_asks [og_loc 0, og_fix (fun _ => 1005) (og_loc 0)])) (og_seq (og_set 5 (og_call m_Model_number [og_loc 0, og_k 0, og_k 9])) (og_seq (og_exp (og_call m_Model_asks [og_loc 0, og_fix (fun _ => 1006) (og_loc 0)])) (og_seq (og_set 6 (og_call m_Model_number [og_loc 0, og_k 1, og_k 30])) (og_seq (og_if (og_cc og_rne (og_get 5 (og_loc 0)) (og_k 0)) (og_retv) (og_skip)) (og_seq (og_set 7 (og_ald 4 (og_fix (fun _ => 1028) (og_loc 0)) (og_k 0))) (og_seq (og_ast 32 (og_fix (fun _ => 1029) (og_loc 0)) (og_loc 7) (og_loc 2)) (og_seq (og_ast 12 (og_fix (fun _ => 1030) (og_loc 0)) (og_loc 7) (og_loc 4)) (og_seq (og_ast 12 (og_fix (fun _ => 1032) (og_loc 0)) (og_mul (og_k 2) (og_loc 7)) (og_loc 5)) (og_seq (og_ast 12 (og_fix (fun _ => 1032) (og_loc 0)) (og_add (og_mul (og_k 2) (og_loc 7)) (og_k 1)) (og_loc 6)) (og_aop og_padd 4 (og_fix (fun _ => 1028) (og_loc 0)) (og_k 0) (og_k 1))))))))))))))))
set_option maxRecDepth 20000 in
theorem ok_Model_graveTold : og_MOK og_y_Model_graveTold og_c_Model_graveTold 8 2 6 [17, 0] m_Model_graveTold := og_method (b := 135) (lt' := [(0, 17), (1, 0)]) (by decide +kernel) (by decide) (by decide) (og_sdrop (lt' := [(0, 17), (1, 0), (2, 1), (4, 0), (5, 0), (6, 0), (7, 0)]) (lt2 := [(0, 17), (1, 0)]) (og_sseq (og_sif (T := 11) (F := 12) (og_cbeq (tgt := 12) (og_callVz (og_acons (og_aload_n (i := 0) (t := 15) (j := 0) (by rfl) (by rfl) d_Model_graveTold_0) (og_acons (og_iconst (by decide) d_Model_graveTold_1) (og_acons (og_bipush (by decide) d_Model_graveTold_2) (og_acons (og_iload_n (i := 1) (j := 1) (by rfl) (by rfl) d_Model_graveTold_4) (og_anil))))) (by decide) ok_Model_isFull (v_Model_isFull (by decide)) og_w1487 d_Model_graveTold_5) d_Model_graveTold_8 (by decide)) (og_sretv d_Model_graveTold_11) (og_sskip)) (og_sseq (og_lstore_n (i := 2) (lt' := [(0, 17), (1, 0), (2, 1)]) (og_callVl (og_acons (og_aload_n (i := 0) (t := 15) (j := 0) (by rfl) (by rfl) d_Model_graveTold_12) (og_anil)) (by decide) ok_Model_newName (v_Model_newName (by decide)) og_w1495 d_Model_graveTold_13) (by rfl) (by decide) (by decide) d_Model_graveTold_16) (og_sseq (og_callVv (og_acons (og_aload_n (i := 0) (t := 15) (j := 0) (by rfl) (by rfl) d_Model_graveTold_17) (og_acons (og_genc (og_f_Model_longWord (og_aload_n (i := 0) (t := 15) (j := 0) (by rfl) (by rfl) d_Model_graveTold_18) og_w1155 d_Model_graveTold_19) (by rfl)) (og_anil))) ok_Model_asks (v_Model_asks (by decide)) og_w1509 d_Model_graveTold_22) (og_sseq (og_istore (i := 4) (lt' := [(0, 17), (1, 0), (2, 1), (4, 0)]) (og_callVi (og_acons (og_aload_n (i := 0) (t := 15) (j := 0) (by rfl) (by rfl) d_Model_graveTold_25) (og_acons (og_iconst (by decide) d_Model_graveTold_26) (og_acons (og_bipush (by decide) d_Model_graveTold_27) (og_anil)))) (by decide) ok_Model_number (v_Model_number (by decide)) og_w1513 d_Model_graveTold_29) (by decide) (by decide) d_Model_graveTold_32) (og_sseq (og_callVv (og_acons (og_aload_n (i := 0) (t := 15) (j := 0) (by rfl) (by rfl) d_Model_graveTold_34) (og_acons (og_genc (og_f_Model_deepWord (og_aload_n (i := 0) (t := 15) (j := 0) (by rfl) (by rfl) d_Model_graveTold_35) og_w1156 d_Model_graveTold_36) (by rfl)) (og_anil))) ok_Model_asks (v_Model_asks (by decide)) og_w1509 d_Model_graveTold_39) (og_sseq (og_istore (i := 5) (lt' := [(0, 17), (1, 0), (2, 1), (4, 0), (5, 0)]) (og_callVi (og_acons (og_aload_n (i := 0) (t := 15) (j := 0) (by rfl) (by rfl) d_Model_graveTold_42) (og_acons (og_iconst (by decide) d_Model_graveTold_43) (og_acons (og_bipush (by decide) d_Model_graveTold_44) (og_anil)))) (by decide) ok_Model_number (v_Model_number (by decide)) og_w1513 d_Model_graveTold_46) (by decide) (by decide) d_Model_graveTold_49) (og_sseq (og_callVv (og_acons (og_aload_n (i := 0) (t := 15) (j := 0) (by rfl) (by rfl) d_Model_graveTold_51) (og_acons (og_genc (og_f_Model_dueWord (og_aload_n (i := 0) (t := 15) (j := 0) (by rfl) (by rfl) d_Model_graveTold_52) og_w1157 d_Model_graveTold_53) (by rfl)) (og_anil))) ok_Model_asks (v_Model_asks (by decide)) og_w1509 d_Model_graveTold_56) (og_sseq (og_istore (i := 6) (lt' := [(0, 17), (1, 0), (2, 1), (4, 0), (5, 0), (6, 0)]) (og_callVi (og_acons (og_aload_n (i := 0) (t := 15) (j := 0) (by rfl) (by rfl) d_Model_graveTold_59) (og_acons (og_iconst (by decide) d_Model_graveTold_60) (og_acons (og_bipush (by decide) d_Model_graveTold_61) (og_anil)))) (by decide) ok_Model_number (v_Model_number (by decide)) og_w1513 d_Model_graveTold_63) (by decide) (by decide) d_Model_graveTold_66) (og_sseq (og_sif (T := 75) (F := 76) (og_ccn og_n_ne (og_zeq (tgt := 76) (og_f_Model_bad (og_aload_n (i := 0) (t := 15) (j := 0) (by rfl) (by rfl) d_Model_graveTold_68) og_w1148 d_Model_graveTold_69) d_Model_graveTold_72 (by decide))) (og_sretv d_Model_graveTold_75) (og_sskip)) (og_sseq (og_istore (i := 7) (lt' := [(0, 17), (1, 0), (2, 1), (4, 0), (5, 0), (6, 0), (7, 0)]) (og_iald (N := 4) (og_f_Model_many (og_aload_n (i := 0) (t := 15) (j := 0) (by rfl) (by rfl) d_Model_graveTold_76) og_w1180 d_Model_graveTold_77) (by rfl) (og_iconst (by decide) d_Model_graveTold_80) d_Model_graveTold_81) (by decide) (by decide) d_Model_graveTold_82) (og_sseq (og_lastore (N := 32) (og_f_Model_names (og_aload_n (i := 0) (t := 15) (j := 0) (by rfl) (by rfl) d_Model_graveTold_84) og_w1181 d_Model_graveTold_85) (by rfl) (og_iload (i := 7) (j := 6) (by rfl) d_Model_graveTold_88) (og_lload_n (i := 2) (j := 2) (by rfl) (by rfl) d_Model_graveTold_90) d_Model_graveTold_91) (og_sseq (og_iastore (N := 12) (og_f_Model_longs (og_aload_n (i := 0) (t := 15) (j := 0) (by rfl) (by rfl) d_Model_graveTold_92) og_w1182 d_Model_graveTold_93) (by rfl) (og_iload (i := 7) (j := 6) (by rfl) d_Model_graveTold_96) (og_iload (i := 4) (j := 3) (by rfl) d_Model_graveTold_98) d_Model_graveTold_100) (og_sseq (og_iastore (N := 12) (og_f_Model_graves0 (og_aload_n (i := 0) (t := 15) (j := 0) (by rfl) (by rfl) d_Model_graveTold_101) og_w1184 d_Model_graveTold_102) (by rfl) (og_imul (og_iconst (by decide) d_Model_graveTold_105) (og_iload (i := 7) (j := 6) (by rfl) d_Model_graveTold_106) d_Model_graveTold_108) (og_iload (i := 5) (j := 4) (by rfl) d_Model_graveTold_109) d_Model_graveTold_111) (og_sseq (og_iastore (N := 12) (og_f_Model_graves0 (og_aload_n (i := 0) (t := 15) (j := 0) (by rfl) (by rfl) d_Model_graveTold_112) og_w1184 d_Model_graveTold_113) (by rfl) (og_iadd (og_imul (og_iconst (by decide) d_Model_graveTold_116) (og_iload (i := 7) (j := 6) (by rfl) d_Model_graveTold_117) d_Model_graveTold_119) (og_iconst (by decide) d_Model_graveTold_120) d_Model_graveTold_121) (og_iload (i := 6) (j := 5) (by rfl) d_Model_graveTold_122) d_Model_graveTold_124) (og_aadd (N := 4) (og_f_Model_many (og_aload_n (i := 0) (t := 15) (j := 0) (by rfl) (by rfl) d_Model_graveTold_125) og_w1180 d_Model_graveTold_126) (by rfl) (og_iconst (by decide) d_Model_graveTold_129) d_Model_graveTold_130 d_Model_graveTold_131 (og_iconst (by decide) d_Model_graveTold_132) d_Model_graveTold_133 d_Model_graveTold_134))))))))))))))) (by decide)) (fun _ => d_Model_graveTold_135)
abbrev og_c_Model_personTold : ByteArray := prog_14_method_23_code
abbrev og_y_Model_personTold : MethodName := ⟨"OpenGravesModel", "personTold", "(I)V"⟩
theorem v_Model_personTold {own : String} {idx dep : Nat} (h : 6 + 1 ≤ dep) : og_sV own idx og_y_Model_personTold og_c_Model_personTold 8 2 6 dep 13 1 := ⟨⟨12, og_sl_Model, og_T_Model, 102, rfl, by decide, rfl⟩, og_w1525, (og_memP (⟨"OpenGravesModel", "personTold", "(I)V"⟩, 102) (List.mem_of_getElem? (i := 63) (by decide +kernel))), og_w17, og_w1526, ⟨by decide +kernel, by decide +kernel, by decide +kernel⟩, h, by decide⟩
theorem d_Model_personTold_0 : decode og_c_Model_personTold 0 = .ok (.aload_n 0, 1) := by decide +kernel
theorem d_Model_personTold_1 : decode og_c_Model_personTold 1 = .ok (.iconst 1, 1) := by decide +kernel
theorem d_Model_personTold_2 : decode og_c_Model_personTold 2 = .ok (.bipush 8, 2) := by decide +kernel
theorem d_Model_personTold_4 : decode og_c_Model_personTold 4 = .ok (.iload_n 1, 1) := by decide +kernel
theorem d_Model_personTold_5 : decode og_c_Model_personTold 5 = .ok (.invokevirtual 307, 3) := by decide +kernel
theorem d_Model_personTold_8 : decode og_c_Model_personTold 8 = .ok (.ifCond .eq 4, 3) := by decide +kernel
theorem d_Model_personTold_11 : decode og_c_Model_personTold 11 = .ok (.return_, 1) := by decide +kernel
theorem d_Model_personTold_12 : decode og_c_Model_personTold 12 = .ok (.aload_n 0, 1) := by decide +kernel
theorem d_Model_personTold_13 : decode og_c_Model_personTold 13 = .ok (.invokevirtual 311, 3) := by decide +kernel
theorem d_Model_personTold_16 : decode og_c_Model_personTold 16 = .ok (.lstore_n 2, 1) := by decide +kernel
theorem d_Model_personTold_17 : decode og_c_Model_personTold 17 = .ok (.aload_n 0, 1) := by decide +kernel
theorem d_Model_personTold_18 : decode og_c_Model_personTold 18 = .ok (.aload_n 0, 1) := by decide +kernel
theorem d_Model_personTold_19 : decode og_c_Model_personTold 19 = .ok (.getfield 36, 3) := by decide +kernel
theorem d_Model_personTold_22 : decode og_c_Model_personTold 22 = .ok (.invokevirtual 314, 3) := by decide +kernel
theorem d_Model_personTold_25 : decode og_c_Model_personTold 25 = .ok (.aload_n 0, 1) := by decide +kernel
theorem d_Model_personTold_26 : decode og_c_Model_personTold 26 = .ok (.iconst 1, 1) := by decide +kernel
theorem d_Model_personTold_27 : decode og_c_Model_personTold 27 = .ok (.bipush 9, 2) := by decide +kernel
theorem d_Model_personTold_29 : decode og_c_Model_personTold 29 = .ok (.invokevirtual 318, 3) := by decide +kernel
theorem d_Model_personTold_32 : decode og_c_Model_personTold 32 = .ok (.istore 4, 2) := by decide +kernel
theorem d_Model_personTold_34 : decode og_c_Model_personTold 34 = .ok (.aload_n 0, 1) := by decide +kernel
theorem d_Model_personTold_35 : decode og_c_Model_personTold 35 = .ok (.aload_n 0, 1) := by decide +kernel
theorem d_Model_personTold_36 : decode og_c_Model_personTold 36 = .ok (.getfield 39, 3) := by decide +kernel
theorem d_Model_personTold_39 : decode og_c_Model_personTold 39 = .ok (.invokevirtual 314, 3) := by decide +kernel
theorem d_Model_personTold_42 : decode og_c_Model_personTold 42 = .ok (.aload_n 0, 1) := by decide +kernel
theorem d_Model_personTold_43 : decode og_c_Model_personTold 43 = .ok (.iconst 0, 1) := by decide +kernel
theorem d_Model_personTold_44 : decode og_c_Model_personTold 44 = .ok (.bipush 99, 2) := by decide +kernel
theorem d_Model_personTold_46 : decode og_c_Model_personTold 46 = .ok (.invokevirtual 318, 3) := by decide +kernel
theorem d_Model_personTold_49 : decode og_c_Model_personTold 49 = .ok (.istore 5, 2) := by decide +kernel
theorem d_Model_personTold_51 : decode og_c_Model_personTold 51 = .ok (.aload_n 0, 1) := by decide +kernel
theorem d_Model_personTold_52 : decode og_c_Model_personTold 52 = .ok (.aload_n 0, 1) := by decide +kernel
theorem d_Model_personTold_53 : decode og_c_Model_personTold 53 = .ok (.getfield 42, 3) := by decide +kernel
theorem d_Model_personTold_56 : decode og_c_Model_personTold 56 = .ok (.invokevirtual 314, 3) := by decide +kernel
theorem d_Model_personTold_59 : decode og_c_Model_personTold 59 = .ok (.aload_n 0, 1) := by decide +kernel
theorem d_Model_personTold_60 : decode og_c_Model_personTold 60 = .ok (.iconst 0, 1) := by decide +kernel
theorem d_Model_personTold_61 : decode og_c_Model_personTold 61 = .ok (.bipush 9, 2) := by decide +kernel
theorem d_Model_personTold_63 : decode og_c_Model_personTold 63 = .ok (.invokevirtual 318, 3) := by decide +kernel
theorem d_Model_personTold_66 : decode og_c_Model_personTold 66 = .ok (.istore 6, 2) := by decide +kernel
theorem d_Model_personTold_68 : decode og_c_Model_personTold 68 = .ok (.aload_n 0, 1) := by decide +kernel
theorem d_Model_personTold_69 : decode og_c_Model_personTold 69 = .ok (.getfield 242, 3) := by decide +kernel
theorem d_Model_personTold_72 : decode og_c_Model_personTold 72 = .ok (.ifCond .eq 4, 3) := by decide +kernel
theorem d_Model_personTold_75 : decode og_c_Model_personTold 75 = .ok (.return_, 1) := by decide +kernel
theorem d_Model_personTold_76 : decode og_c_Model_personTold 76 = .ok (.aload_n 0, 1) := by decide +kernel
theorem d_Model_personTold_77 : decode og_c_Model_personTold 77 = .ok (.getfield 96, 3) := by decide +kernel
theorem d_Model_personTold_80 : decode og_c_Model_personTold 80 = .ok (.iconst 1, 1) := by decide +kernel
theorem d_Model_personTold_81 : decode og_c_Model_personTold 81 = .ok (.iaload, 1) := by decide +kernel
theorem d_Model_personTold_82 : decode og_c_Model_personTold 82 = .ok (.istore 7, 2) := by decide +kernel
theorem d_Model_personTold_84 : decode og_c_Model_personTold 84 = .ok (.aload_n 0, 1) := by decide +kernel
theorem d_Model_personTold_85 : decode og_c_Model_personTold 85 = .ok (.getfield 99, 3) := by decide +kernel
theorem d_Model_personTold_88 : decode og_c_Model_personTold 88 = .ok (.bipush 8, 2) := by decide +kernel
theorem d_Model_personTold_90 : decode og_c_Model_personTold 90 = .ok (.iload 7, 2) := by decide +kernel
theorem d_Model_personTold_92 : decode og_c_Model_personTold 92 = .ok (.iadd, 1) := by decide +kernel
theorem d_Model_personTold_93 : decode og_c_Model_personTold 93 = .ok (.lload_n 2, 1) := by decide +kernel
theorem d_Model_personTold_94 : decode og_c_Model_personTold 94 = .ok (.lastore, 1) := by decide +kernel
theorem d_Model_personTold_95 : decode og_c_Model_personTold 95 = .ok (.aload_n 0, 1) := by decide +kernel
theorem d_Model_personTold_96 : decode og_c_Model_personTold 96 = .ok (.getfield 106, 3) := by decide +kernel
theorem d_Model_personTold_99 : decode og_c_Model_personTold 99 = .ok (.iload 7, 2) := by decide +kernel
theorem d_Model_personTold_101 : decode og_c_Model_personTold 101 = .ok (.iload 4, 2) := by decide +kernel
theorem d_Model_personTold_103 : decode og_c_Model_personTold 103 = .ok (.iastore, 1) := by decide +kernel
theorem d_Model_personTold_104 : decode og_c_Model_personTold 104 = .ok (.aload_n 0, 1) := by decide +kernel
theorem d_Model_personTold_105 : decode og_c_Model_personTold 105 = .ok (.getfield 112, 3) := by decide +kernel
theorem d_Model_personTold_108 : decode og_c_Model_personTold 108 = .ok (.iconst 2, 1) := by decide +kernel
theorem d_Model_personTold_109 : decode og_c_Model_personTold 109 = .ok (.iload 7, 2) := by decide +kernel
theorem d_Model_personTold_111 : decode og_c_Model_personTold 111 = .ok (.imul, 1) := by decide +kernel
theorem d_Model_personTold_112 : decode og_c_Model_personTold 112 = .ok (.iload 5, 2) := by decide +kernel
theorem d_Model_personTold_114 : decode og_c_Model_personTold 114 = .ok (.iastore, 1) := by decide +kernel
theorem d_Model_personTold_115 : decode og_c_Model_personTold 115 = .ok (.aload_n 0, 1) := by decide +kernel
theorem d_Model_personTold_116 : decode og_c_Model_personTold 116 = .ok (.getfield 112, 3) := by decide +kernel
theorem d_Model_personTold_119 : decode og_c_Model_personTold 119 = .ok (.iconst 2, 1) := by decide +kernel
theorem d_Model_personTold_120 : decode og_c_Model_personTold 120 = .ok (.iload 7, 2) := by decide +kernel
theorem d_Model_personTold_122 : decode og_c_Model_personTold 122 = .ok (.imul, 1) := by decide +kernel
theorem d_Model_personTold_123 : decode og_c_Model_personTold 123 = .ok (.iconst 1, 1) := by decide +kernel
theorem d_Model_personTold_124 : decode og_c_Model_personTold 124 = .ok (.iadd, 1) := by decide +kernel
theorem d_Model_personTold_125 : decode og_c_Model_personTold 125 = .ok (.iload 6, 2) := by decide +kernel
theorem d_Model_personTold_127 : decode og_c_Model_personTold 127 = .ok (.iastore, 1) := by decide +kernel
theorem d_Model_personTold_128 : decode og_c_Model_personTold 128 = .ok (.aload_n 0, 1) := by decide +kernel
theorem d_Model_personTold_129 : decode og_c_Model_personTold 129 = .ok (.getfield 96, 3) := by decide +kernel
theorem d_Model_personTold_132 : decode og_c_Model_personTold 132 = .ok (.iconst 1, 1) := by decide +kernel
theorem d_Model_personTold_133 : decode og_c_Model_personTold 133 = .ok (.dup2, 1) := by decide +kernel
theorem d_Model_personTold_134 : decode og_c_Model_personTold 134 = .ok (.iaload, 1) := by decide +kernel
theorem d_Model_personTold_135 : decode og_c_Model_personTold 135 = .ok (.iconst 1, 1) := by decide +kernel
theorem d_Model_personTold_136 : decode og_c_Model_personTold 136 = .ok (.iadd, 1) := by decide +kernel
theorem d_Model_personTold_137 : decode og_c_Model_personTold 137 = .ok (.iastore, 1) := by decide +kernel
theorem d_Model_personTold_138 : decode og_c_Model_personTold 138 = .ok (.return_, 1) := by decide +kernel
def m_Model_personTold : og_Dn := og_den [17, 0] 8 2 (og_seq (og_if (og_cb (og_call m_Model_isFull [og_loc 0, og_k 1, og_k 8, og_loc 1])) (og_retv) (og_skip)) (og_seq (og_set 2 (og_call m_Model_newName [og_loc 0])) (og_seq (og_exp (og_call m_Model_asks [og_loc 0, og_fix (fun _ => 1008) (og_loc 0)])) (og_seq (og_set 4 (og_call m_Model_number [og_loc 0, og_k 1, og_k 9])) (og_seq (og_exp (og_call m_Model_asks [og_loc 0, og_fix (fun _ => 1009) (og_loc 0)])) (og_seq (og_set 5 (og_call m_Model_number [og_loc 0, og_k 0, og_k 99])) (og_seq (og_exp (og_call m_Model_asks [og_loc 0, og_fix (fun _ => 1010) (og_loc 0)])) (og_seq (og_set 6 (og_call m_Model_number [og_loc 0, og_k 0, og_k 9])) (og_seq (og_if (og_cc og_rne (og_get 5 (og_loc 0)) (og_k 0)) (og_retv) (og_skip)) (og_seq (og_set 7 (og_ald 4 (og_fix (fun _ => 1028) (og_loc 0)) (og_k 1))) (og_seq (og_ast 32 (og_fix (fun _ => 1029) (og_loc 0)) (og_add (og_k 8) (og_loc 7)) (og_loc 2)) (og_seq (og_ast 16 (og_fix (fun _ => 1031) (og_loc 0)) (og_loc 7) (og_loc 4)) (og_seq (og_ast 16 (og_fix (fun _ => 1033) (og_loc 0)) (og_mul (og_k 2) (og_loc 7)) (og_loc 5)) (og_seq (og_ast 16 (og_fix (fun _ => 1033) (og_loc 0)) (og_add (og_mul (og_k 2) (og_loc 7)) (og_k 1)) (og_loc 6)) (og_aop og_padd 4 (og_fix (fun _ => 1028) (og_loc 0)) (og_k 1) (og_k 1))))))))))))))))
set_option maxRecDepth 20000 in
theorem ok_Model_personTold : og_MOK og_y_Model_personTold og_c_Model_personTold 8 2 6 [17, 0] m_Model_personTold := og_method (b := 138) (lt' := [(0, 17), (1, 0)]) (by decide +kernel) (by decide) (by decide) (og_sdrop (lt' := [(0, 17), (1, 0), (2, 1), (4, 0), (5, 0), (6, 0), (7, 0)]) (lt2 := [(0, 17), (1, 0)]) (og_sseq (og_sif (T := 11) (F := 12) (og_cbeq (tgt := 12) (og_callVz (og_acons (og_aload_n (i := 0) (t := 15) (j := 0) (by rfl) (by rfl) d_Model_personTold_0) (og_acons (og_iconst (by decide) d_Model_personTold_1) (og_acons (og_bipush (by decide) d_Model_personTold_2) (og_acons (og_iload_n (i := 1) (j := 1) (by rfl) (by rfl) d_Model_personTold_4) (og_anil))))) (by decide) ok_Model_isFull (v_Model_isFull (by decide)) og_w1487 d_Model_personTold_5) d_Model_personTold_8 (by decide)) (og_sretv d_Model_personTold_11) (og_sskip)) (og_sseq (og_lstore_n (i := 2) (lt' := [(0, 17), (1, 0), (2, 1)]) (og_callVl (og_acons (og_aload_n (i := 0) (t := 15) (j := 0) (by rfl) (by rfl) d_Model_personTold_12) (og_anil)) (by decide) ok_Model_newName (v_Model_newName (by decide)) og_w1495 d_Model_personTold_13) (by rfl) (by decide) (by decide) d_Model_personTold_16) (og_sseq (og_callVv (og_acons (og_aload_n (i := 0) (t := 15) (j := 0) (by rfl) (by rfl) d_Model_personTold_17) (og_acons (og_genc (og_f_Model_tallWord (og_aload_n (i := 0) (t := 15) (j := 0) (by rfl) (by rfl) d_Model_personTold_18) og_w1159 d_Model_personTold_19) (by rfl)) (og_anil))) ok_Model_asks (v_Model_asks (by decide)) og_w1509 d_Model_personTold_22) (og_sseq (og_istore (i := 4) (lt' := [(0, 17), (1, 0), (2, 1), (4, 0)]) (og_callVi (og_acons (og_aload_n (i := 0) (t := 15) (j := 0) (by rfl) (by rfl) d_Model_personTold_25) (og_acons (og_iconst (by decide) d_Model_personTold_26) (og_acons (og_bipush (by decide) d_Model_personTold_27) (og_anil)))) (by decide) ok_Model_number (v_Model_number (by decide)) og_w1513 d_Model_personTold_29) (by decide) (by decide) d_Model_personTold_32) (og_sseq (og_callVv (og_acons (og_aload_n (i := 0) (t := 15) (j := 0) (by rfl) (by rfl) d_Model_personTold_34) (og_acons (og_genc (og_f_Model_ageWord (og_aload_n (i := 0) (t := 15) (j := 0) (by rfl) (by rfl) d_Model_personTold_35) og_w1160 d_Model_personTold_36) (by rfl)) (og_anil))) ok_Model_asks (v_Model_asks (by decide)) og_w1509 d_Model_personTold_39) (og_sseq (og_istore (i := 5) (lt' := [(0, 17), (1, 0), (2, 1), (4, 0), (5, 0)]) (og_callVi (og_acons (og_aload_n (i := 0) (t := 15) (j := 0) (by rfl) (by rfl) d_Model_personTold_42) (og_acons (og_iconst (by decide) d_Model_personTold_43) (og_acons (og_bipush (by decide) d_Model_personTold_44) (og_anil)))) (by decide) ok_Model_number (v_Model_number (by decide)) og_w1513 d_Model_personTold_46) (by decide) (by decide) d_Model_personTold_49) (og_sseq (og_callVv (og_acons (og_aload_n (i := 0) (t := 15) (j := 0) (by rfl) (by rfl) d_Model_personTold_51) (og_acons (og_genc (og_f_Model_willWord (og_aload_n (i := 0) (t := 15) (j := 0) (by rfl) (by rfl) d_Model_personTold_52) og_w1161 d_Model_personTold_53) (by rfl)) (og_anil))) ok_Model_asks (v_Model_asks (by decide)) og_w1509 d_Model_personTold_56) (og_sseq (og_istore (i := 6) (lt' := [(0, 17), (1, 0), (2, 1), (4, 0), (5, 0), (6, 0)]) (og_callVi (og_acons (og_aload_n (i := 0) (t := 15) (j := 0) (by rfl) (by rfl) d_Model_personTold_59) (og_acons (og_iconst (by decide) d_Model_personTold_60) (og_acons (og_bipush (by decide) d_Model_personTold_61) (og_anil)))) (by decide) ok_Model_number (v_Model_number (by decide)) og_w1513 d_Model_personTold_63) (by decide) (by decide) d_Model_personTold_66) (og_sseq (og_sif (T := 75) (F := 76) (og_ccn og_n_ne (og_zeq (tgt := 76) (og_f_Model_bad (og_aload_n (i := 0) (t := 15) (j := 0) (by rfl) (by rfl) d_Model_personTold_68) og_w1148 d_Model_personTold_69) d_Model_personTold_72 (by decide))) (og_sretv d_Model_personTold_75) (og_sskip)) (og_sseq (og_istore (i := 7) (lt' := [(0, 17), (1, 0), (2, 1), (4, 0), (5, 0), (6, 0), (7, 0)]) (og_iald (N := 4) (og_f_Model_many (og_aload_n (i := 0) (t := 15) (j := 0) (by rfl) (by rfl) d_Model_personTold_76) og_w1180 d_Model_personTold_77) (by rfl) (og_iconst (by decide) d_Model_personTold_80) d_Model_personTold_81) (by decide) (by decide) d_Model_personTold_82) (og_sseq (og_lastore (N := 32) (og_f_Model_names (og_aload_n (i := 0) (t := 15) (j := 0) (by rfl) (by rfl) d_Model_personTold_84) og_w1181 d_Model_personTold_85) (by rfl) (og_iadd (og_bipush (by decide) d_Model_personTold_88) (og_iload (i := 7) (j := 6) (by rfl) d_Model_personTold_90) d_Model_personTold_92) (og_lload_n (i := 2) (j := 2) (by rfl) (by rfl) d_Model_personTold_93) d_Model_personTold_94) (og_sseq (og_iastore (N := 16) (og_f_Model_talls (og_aload_n (i := 0) (t := 15) (j := 0) (by rfl) (by rfl) d_Model_personTold_95) og_w1183 d_Model_personTold_96) (by rfl) (og_iload (i := 7) (j := 6) (by rfl) d_Model_personTold_99) (og_iload (i := 4) (j := 3) (by rfl) d_Model_personTold_101) d_Model_personTold_103) (og_sseq (og_iastore (N := 16) (og_f_Model_people0 (og_aload_n (i := 0) (t := 15) (j := 0) (by rfl) (by rfl) d_Model_personTold_104) og_w1185 d_Model_personTold_105) (by rfl) (og_imul (og_iconst (by decide) d_Model_personTold_108) (og_iload (i := 7) (j := 6) (by rfl) d_Model_personTold_109) d_Model_personTold_111) (og_iload (i := 5) (j := 4) (by rfl) d_Model_personTold_112) d_Model_personTold_114) (og_sseq (og_iastore (N := 16) (og_f_Model_people0 (og_aload_n (i := 0) (t := 15) (j := 0) (by rfl) (by rfl) d_Model_personTold_115) og_w1185 d_Model_personTold_116) (by rfl) (og_iadd (og_imul (og_iconst (by decide) d_Model_personTold_119) (og_iload (i := 7) (j := 6) (by rfl) d_Model_personTold_120) d_Model_personTold_122) (og_iconst (by decide) d_Model_personTold_123) d_Model_personTold_124) (og_iload (i := 6) (j := 5) (by rfl) d_Model_personTold_125) d_Model_personTold_127) (og_aadd (N := 4) (og_f_Model_many (og_aload_n (i := 0) (t := 15) (j := 0) (by rfl) (by rfl) d_Model_personTold_128) og_w1180 d_Model_personTold_129) (by rfl) (og_iconst (by decide) d_Model_personTold_132) d_Model_personTold_133 d_Model_personTold_134 (og_iconst (by decide) d_Model_personTold_135) d_Model_personTold_136 d_Model_personTold_137))))))))))))))) (by decide)) (fun _ => d_Model_personTold_138)
abbrev og_c_Model_qOpens : ByteArray := prog_14_method_103_code
abbrev og_y_Model_qOpens : MethodName := ⟨"OpenGravesModel", "qOpens", "(II)V"⟩
theorem v_Model_qOpens {own : String} {idx dep : Nat} (h : 2 + 1 ≤ dep) : og_sV own idx og_y_Model_qOpens og_c_Model_qOpens 3 2 2 dep 13 2 := ⟨⟨12, og_sl_Model, og_T_Model, 102, rfl, by decide, rfl⟩, og_w1540, (og_memP (⟨"OpenGravesModel", "qOpens", "(II)V"⟩, 102) (List.mem_of_getElem? (i := 66) (by decide +kernel))), og_w17, og_w1541, ⟨by decide +kernel, by decide +kernel, by decide +kernel⟩, h, by decide⟩
theorem d_Model_qOpens_0 : decode og_c_Model_qOpens 0 = .ok (.aload_n 0, 1) := by decide +kernel
theorem d_Model_qOpens_1 : decode og_c_Model_qOpens 1 = .ok (.getfield 242, 3) := by decide +kernel
theorem d_Model_qOpens_4 : decode og_c_Model_qOpens 4 = .ok (.ifCond .eq 4, 3) := by decide +kernel
theorem d_Model_qOpens_7 : decode og_c_Model_qOpens 7 = .ok (.return_, 1) := by decide +kernel
theorem d_Model_qOpens_8 : decode og_c_Model_qOpens 8 = .ok (.aload_n 0, 1) := by decide +kernel
theorem d_Model_qOpens_9 : decode og_c_Model_qOpens 9 = .ok (.getfield 332, 3) := by decide +kernel
theorem d_Model_qOpens_12 : decode og_c_Model_qOpens 12 = .ok (.bipush 6, 2) := by decide +kernel
theorem d_Model_qOpens_14 : decode og_c_Model_qOpens 14 = .ok (.if_icmp .ne 10, 3) := by decide +kernel
theorem d_Model_qOpens_17 : decode og_c_Model_qOpens 17 = .ok (.aload_n 0, 1) := by decide +kernel
theorem d_Model_qOpens_18 : decode og_c_Model_qOpens 18 = .ok (.iconst 4, 1) := by decide +kernel
theorem d_Model_qOpens_19 : decode og_c_Model_qOpens 19 = .ok (.iload_n 2, 1) := by decide +kernel
theorem d_Model_qOpens_20 : decode og_c_Model_qOpens 20 = .ok (.invokevirtual 272, 3) := by decide +kernel
theorem d_Model_qOpens_23 : decode og_c_Model_qOpens 23 = .ok (.return_, 1) := by decide +kernel
theorem d_Model_qOpens_24 : decode og_c_Model_qOpens 24 = .ok (.aload_n 0, 1) := by decide +kernel
theorem d_Model_qOpens_25 : decode og_c_Model_qOpens 25 = .ok (.dup, 1) := by decide +kernel
theorem d_Model_qOpens_26 : decode og_c_Model_qOpens 26 = .ok (.getfield 332, 3) := by decide +kernel
theorem d_Model_qOpens_29 : decode og_c_Model_qOpens 29 = .ok (.iconst 1, 1) := by decide +kernel
theorem d_Model_qOpens_30 : decode og_c_Model_qOpens 30 = .ok (.iadd, 1) := by decide +kernel
theorem d_Model_qOpens_31 : decode og_c_Model_qOpens 31 = .ok (.putfield 332, 3) := by decide +kernel
theorem d_Model_qOpens_34 : decode og_c_Model_qOpens 34 = .ok (.aload_n 0, 1) := by decide +kernel
theorem d_Model_qOpens_35 : decode og_c_Model_qOpens 35 = .ok (.getfield 230, 3) := by decide +kernel
theorem d_Model_qOpens_38 : decode og_c_Model_qOpens 38 = .ok (.aload_n 0, 1) := by decide +kernel
theorem d_Model_qOpens_39 : decode og_c_Model_qOpens 39 = .ok (.getfield 329, 3) := by decide +kernel
theorem d_Model_qOpens_42 : decode og_c_Model_qOpens 42 = .ok (.iload_n 1, 1) := by decide +kernel
theorem d_Model_qOpens_43 : decode og_c_Model_qOpens 43 = .ok (.iastore, 1) := by decide +kernel
theorem d_Model_qOpens_44 : decode og_c_Model_qOpens 44 = .ok (.aload_n 0, 1) := by decide +kernel
theorem d_Model_qOpens_45 : decode og_c_Model_qOpens 45 = .ok (.dup, 1) := by decide +kernel
theorem d_Model_qOpens_46 : decode og_c_Model_qOpens 46 = .ok (.getfield 329, 3) := by decide +kernel
theorem d_Model_qOpens_49 : decode og_c_Model_qOpens 49 = .ok (.iconst 1, 1) := by decide +kernel
theorem d_Model_qOpens_50 : decode og_c_Model_qOpens 50 = .ok (.iadd, 1) := by decide +kernel
theorem d_Model_qOpens_51 : decode og_c_Model_qOpens 51 = .ok (.putfield 329, 3) := by decide +kernel
theorem d_Model_qOpens_54 : decode og_c_Model_qOpens 54 = .ok (.return_, 1) := by decide +kernel
def m_Model_qOpens : og_Dn := og_den [17, 0, 0] 3 2 (og_seq (og_if (og_cc og_rne (og_get 5 (og_loc 0)) (og_k 0)) (og_retv) (og_skip)) (og_seq (og_if (og_cc og_req (og_get 94 (og_loc 0)) (og_k 6)) (og_seq (og_exp (og_call m_Model_fail [og_loc 0, og_k 4, og_loc 2])) (og_retv)) (og_skip)) (og_seq (og_pop32 og_padd 94 (og_loc 0) (og_k 1)) (og_seq (og_ast 1700 (og_fix (fun _ => 1071) (og_loc 0)) (og_get 93 (og_loc 0)) (og_loc 1)) (og_pop32 og_padd 93 (og_loc 0) (og_k 1))))))
set_option maxRecDepth 20000 in
theorem ok_Model_qOpens : og_MOK og_y_Model_qOpens og_c_Model_qOpens 3 2 2 [17, 0, 0] m_Model_qOpens := og_method (b := 54) (lt' := [(0, 17), (1, 0), (2, 0)]) (by decide +kernel) (by decide) (by decide) (og_sseq (og_sif (T := 7) (F := 8) (og_ccn og_n_ne (og_zeq (tgt := 8) (og_f_Model_bad (og_aload_n (i := 0) (t := 15) (j := 0) (by rfl) (by rfl) d_Model_qOpens_0) og_w1148 d_Model_qOpens_1) d_Model_qOpens_4 (by decide))) (og_sretv d_Model_qOpens_7) (og_sskip)) (og_sseq (og_sif (T := 17) (F := 24) (og_ccn og_n_eq (og_ine (tgt := 24) (og_f_Model_qOpened (og_aload_n (i := 0) (t := 15) (j := 0) (by rfl) (by rfl) d_Model_qOpens_8) og_w1237 d_Model_qOpens_9) (og_bipush (by decide) d_Model_qOpens_12) d_Model_qOpens_14 (by decide))) (og_sseq (og_callVv (og_acons (og_aload_n (i := 0) (t := 15) (j := 0) (by rfl) (by rfl) d_Model_qOpens_17) (og_acons (og_iconst (by decide) d_Model_qOpens_18) (og_acons (og_iload_n (i := 2) (j := 2) (by rfl) (by rfl) d_Model_qOpens_19) (og_anil)))) ok_Model_fail (v_Model_fail (by decide)) og_w1491 d_Model_qOpens_20) (og_sretv d_Model_qOpens_23)) (og_sskip)) (og_sseq (og_qadd_Model_qOpened (og_aload_n (i := 0) (t := 15) (j := 0) (by rfl) (by rfl) d_Model_qOpens_24) d_Model_qOpens_25 d_Model_qOpens_26 (og_iconst (by decide) d_Model_qOpens_29) d_Model_qOpens_30 og_w1237 d_Model_qOpens_31) (og_sseq (og_iastore (N := 1700) (og_f_Model_qWait (og_aload_n (i := 0) (t := 15) (j := 0) (by rfl) (by rfl) d_Model_qOpens_34) og_w1235 d_Model_qOpens_35) (by rfl) (og_f_Model_qWaits (og_aload_n (i := 0) (t := 15) (j := 0) (by rfl) (by rfl) d_Model_qOpens_38) og_w1236 d_Model_qOpens_39) (og_iload_n (i := 1) (j := 1) (by rfl) (by rfl) d_Model_qOpens_42) d_Model_qOpens_43) (og_qadd_Model_qWaits (og_aload_n (i := 0) (t := 15) (j := 0) (by rfl) (by rfl) d_Model_qOpens_44) d_Model_qOpens_45 d_Model_qOpens_46 (og_iconst (by decide) d_Model_qOpens_49) d_Model_qOpens_50 og_w1236 d_Model_qOpens_51))))) (fun _ => d_Model_qOpens_54)
abbrev og_c_Model_qCode : ByteArray := prog_14_method_102_code
abbrev og_y_Model_qCode : MethodName := ⟨"OpenGravesModel", "qCode", "(I)V"⟩
theorem v_Model_qCode {own : String} {idx dep : Nat} (h : 1 + 1 ≤ dep) : og_sV own idx og_y_Model_qCode og_c_Model_qCode 2 2 1 dep 13 1 := ⟨⟨12, og_sl_Model, og_T_Model, 102, rfl, by decide, rfl⟩, og_w1548, (og_memP (⟨"OpenGravesModel", "qCode", "(I)V"⟩, 102) (List.mem_of_getElem? (i := 68) (by decide +kernel))), og_w17, og_w1549, ⟨by decide +kernel, by decide +kernel, by decide +kernel⟩, h, by decide⟩
theorem d_Model_qCode_0 : decode og_c_Model_qCode 0 = .ok (.aload_n 0, 1) := by decide +kernel
theorem d_Model_qCode_1 : decode og_c_Model_qCode 1 = .ok (.getfield 227, 3) := by decide +kernel
theorem d_Model_qCode_4 : decode og_c_Model_qCode 4 = .ok (.aload_n 0, 1) := by decide +kernel
theorem d_Model_qCode_5 : decode og_c_Model_qCode 5 = .ok (.getfield 326, 3) := by decide +kernel
theorem d_Model_qCode_8 : decode og_c_Model_qCode 8 = .ok (.iload_n 1, 1) := by decide +kernel
theorem d_Model_qCode_9 : decode og_c_Model_qCode 9 = .ok (.iastore, 1) := by decide +kernel
theorem d_Model_qCode_10 : decode og_c_Model_qCode 10 = .ok (.aload_n 0, 1) := by decide +kernel
theorem d_Model_qCode_11 : decode og_c_Model_qCode 11 = .ok (.dup, 1) := by decide +kernel
theorem d_Model_qCode_12 : decode og_c_Model_qCode 12 = .ok (.getfield 326, 3) := by decide +kernel
theorem d_Model_qCode_15 : decode og_c_Model_qCode 15 = .ok (.iconst 1, 1) := by decide +kernel
theorem d_Model_qCode_16 : decode og_c_Model_qCode 16 = .ok (.iadd, 1) := by decide +kernel
theorem d_Model_qCode_17 : decode og_c_Model_qCode 17 = .ok (.putfield 326, 3) := by decide +kernel
theorem d_Model_qCode_20 : decode og_c_Model_qCode 20 = .ok (.return_, 1) := by decide +kernel
def m_Model_qCode : og_Dn := og_den [17, 0] 2 2 (og_seq (og_ast 1700 (og_fix (fun _ => 1070) (og_loc 0)) (og_get 91 (og_loc 0)) (og_loc 1)) (og_pop32 og_padd 91 (og_loc 0) (og_k 1)))
set_option maxRecDepth 20000 in
theorem ok_Model_qCode : og_MOK og_y_Model_qCode og_c_Model_qCode 2 2 1 [17, 0] m_Model_qCode := og_method (b := 20) (lt' := [(0, 17), (1, 0)]) (by decide +kernel) (by decide) (by decide) (og_sseq (og_iastore (N := 1700) (og_f_Model_qCodes (og_aload_n (i := 0) (t := 15) (j := 0) (by rfl) (by rfl) d_Model_qCode_0) og_w1233 d_Model_qCode_1) (by rfl) (og_f_Model_qCoded (og_aload_n (i := 0) (t := 15) (j := 0) (by rfl) (by rfl) d_Model_qCode_4) og_w1234 d_Model_qCode_5) (og_iload_n (i := 1) (j := 1) (by rfl) (by rfl) d_Model_qCode_8) d_Model_qCode_9) (og_qadd_Model_qCoded (og_aload_n (i := 0) (t := 15) (j := 0) (by rfl) (by rfl) d_Model_qCode_10) d_Model_qCode_11 d_Model_qCode_12 (og_iconst (by decide) d_Model_qCode_15) d_Model_qCode_16 og_w1234 d_Model_qCode_17)) (fun _ => d_Model_qCode_20)
abbrev og_c_Model_qWordHere : ByteArray := prog_14_method_109_code
abbrev og_y_Model_qWordHere : MethodName := ⟨"OpenGravesModel", "qWordHere", "()I"⟩
theorem v_Model_qWordHere {own : String} {idx dep : Nat} (h : 3 + 1 ≤ dep) : og_sV own idx og_y_Model_qWordHere og_c_Model_qWordHere 1 0 3 dep 13 0 := ⟨⟨12, og_sl_Model, og_T_Model, 102, rfl, by decide, rfl⟩, og_w1564, (og_memP (⟨"OpenGravesModel", "qWordHere", "()I"⟩, 102) (List.mem_of_getElem? (i := 72) (by decide +kernel))), og_w17, og_w1565, ⟨by decide +kernel, by decide +kernel, by decide +kernel⟩, h, by decide⟩
theorem d_Model_qWordHere_0 : decode og_c_Model_qWordHere 0 = .ok (.aload_n 0, 1) := by decide +kernel
theorem d_Model_qWordHere_1 : decode og_c_Model_qWordHere 1 = .ok (.aload_n 0, 1) := by decide +kernel
theorem d_Model_qWordHere_2 : decode og_c_Model_qWordHere 2 = .ok (.getfield 197, 3) := by decide +kernel
theorem d_Model_qWordHere_5 : decode og_c_Model_qWordHere 5 = .ok (.invokevirtual 265, 3) := by decide +kernel
theorem d_Model_qWordHere_8 : decode og_c_Model_qWordHere 8 = .ok (.ifCond .eq 5, 3) := by decide +kernel
theorem d_Model_qWordHere_11 : decode og_c_Model_qWordHere 11 = .ok (.iconst 0, 1) := by decide +kernel
theorem d_Model_qWordHere_12 : decode og_c_Model_qWordHere 12 = .ok (.ireturn, 1) := by decide +kernel
theorem d_Model_qWordHere_13 : decode og_c_Model_qWordHere 13 = .ok (.aload_n 0, 1) := by decide +kernel
theorem d_Model_qWordHere_14 : decode og_c_Model_qWordHere 14 = .ok (.aload_n 0, 1) := by decide +kernel
theorem d_Model_qWordHere_15 : decode og_c_Model_qWordHere 15 = .ok (.getfield 200, 3) := by decide +kernel
theorem d_Model_qWordHere_18 : decode og_c_Model_qWordHere 18 = .ok (.invokevirtual 265, 3) := by decide +kernel
theorem d_Model_qWordHere_21 : decode og_c_Model_qWordHere 21 = .ok (.ifCond .eq 5, 3) := by decide +kernel
theorem d_Model_qWordHere_24 : decode og_c_Model_qWordHere 24 = .ok (.iconst 1, 1) := by decide +kernel
theorem d_Model_qWordHere_25 : decode og_c_Model_qWordHere 25 = .ok (.ireturn, 1) := by decide +kernel
theorem d_Model_qWordHere_26 : decode og_c_Model_qWordHere 26 = .ok (.aload_n 0, 1) := by decide +kernel
theorem d_Model_qWordHere_27 : decode og_c_Model_qWordHere 27 = .ok (.aload_n 0, 1) := by decide +kernel
theorem d_Model_qWordHere_28 : decode og_c_Model_qWordHere 28 = .ok (.getfield 203, 3) := by decide +kernel
theorem d_Model_qWordHere_31 : decode og_c_Model_qWordHere 31 = .ok (.invokevirtual 265, 3) := by decide +kernel
theorem d_Model_qWordHere_34 : decode og_c_Model_qWordHere 34 = .ok (.ifCond .eq 5, 3) := by decide +kernel
theorem d_Model_qWordHere_37 : decode og_c_Model_qWordHere 37 = .ok (.iconst 2, 1) := by decide +kernel
theorem d_Model_qWordHere_38 : decode og_c_Model_qWordHere 38 = .ok (.ireturn, 1) := by decide +kernel
theorem d_Model_qWordHere_39 : decode og_c_Model_qWordHere 39 = .ok (.aload_n 0, 1) := by decide +kernel
theorem d_Model_qWordHere_40 : decode og_c_Model_qWordHere 40 = .ok (.aload_n 0, 1) := by decide +kernel
theorem d_Model_qWordHere_41 : decode og_c_Model_qWordHere 41 = .ok (.getfield 206, 3) := by decide +kernel
theorem d_Model_qWordHere_44 : decode og_c_Model_qWordHere 44 = .ok (.invokevirtual 265, 3) := by decide +kernel
theorem d_Model_qWordHere_47 : decode og_c_Model_qWordHere 47 = .ok (.ifCond .eq 5, 3) := by decide +kernel
theorem d_Model_qWordHere_50 : decode og_c_Model_qWordHere 50 = .ok (.iconst 3, 1) := by decide +kernel
theorem d_Model_qWordHere_51 : decode og_c_Model_qWordHere 51 = .ok (.ireturn, 1) := by decide +kernel
theorem d_Model_qWordHere_52 : decode og_c_Model_qWordHere 52 = .ok (.aload_n 0, 1) := by decide +kernel
theorem d_Model_qWordHere_53 : decode og_c_Model_qWordHere 53 = .ok (.aload_n 0, 1) := by decide +kernel
theorem d_Model_qWordHere_54 : decode og_c_Model_qWordHere 54 = .ok (.getfield 209, 3) := by decide +kernel
theorem d_Model_qWordHere_57 : decode og_c_Model_qWordHere 57 = .ok (.invokevirtual 265, 3) := by decide +kernel
theorem d_Model_qWordHere_60 : decode og_c_Model_qWordHere 60 = .ok (.ifCond .eq 5, 3) := by decide +kernel
theorem d_Model_qWordHere_63 : decode og_c_Model_qWordHere 63 = .ok (.iconst 4, 1) := by decide +kernel
theorem d_Model_qWordHere_64 : decode og_c_Model_qWordHere 64 = .ok (.ireturn, 1) := by decide +kernel
theorem d_Model_qWordHere_65 : decode og_c_Model_qWordHere 65 = .ok (.aload_n 0, 1) := by decide +kernel
theorem d_Model_qWordHere_66 : decode og_c_Model_qWordHere 66 = .ok (.aload_n 0, 1) := by decide +kernel
theorem d_Model_qWordHere_67 : decode og_c_Model_qWordHere 67 = .ok (.getfield 212, 3) := by decide +kernel
theorem d_Model_qWordHere_70 : decode og_c_Model_qWordHere 70 = .ok (.invokevirtual 265, 3) := by decide +kernel
theorem d_Model_qWordHere_73 : decode og_c_Model_qWordHere 73 = .ok (.ifCond .eq 5, 3) := by decide +kernel
theorem d_Model_qWordHere_76 : decode og_c_Model_qWordHere 76 = .ok (.iconst 5, 1) := by decide +kernel
theorem d_Model_qWordHere_77 : decode og_c_Model_qWordHere 77 = .ok (.ireturn, 1) := by decide +kernel
theorem d_Model_qWordHere_78 : decode og_c_Model_qWordHere 78 = .ok (.aload_n 0, 1) := by decide +kernel
theorem d_Model_qWordHere_79 : decode og_c_Model_qWordHere 79 = .ok (.aload_n 0, 1) := by decide +kernel
theorem d_Model_qWordHere_80 : decode og_c_Model_qWordHere 80 = .ok (.getfield 215, 3) := by decide +kernel
theorem d_Model_qWordHere_83 : decode og_c_Model_qWordHere 83 = .ok (.invokevirtual 265, 3) := by decide +kernel
theorem d_Model_qWordHere_86 : decode og_c_Model_qWordHere 86 = .ok (.ifCond .eq 6, 3) := by decide +kernel
theorem d_Model_qWordHere_89 : decode og_c_Model_qWordHere 89 = .ok (.bipush 6, 2) := by decide +kernel
theorem d_Model_qWordHere_91 : decode og_c_Model_qWordHere 91 = .ok (.ireturn, 1) := by decide +kernel
theorem d_Model_qWordHere_92 : decode og_c_Model_qWordHere 92 = .ok (.aload_n 0, 1) := by decide +kernel
theorem d_Model_qWordHere_93 : decode og_c_Model_qWordHere 93 = .ok (.aload_n 0, 1) := by decide +kernel
theorem d_Model_qWordHere_94 : decode og_c_Model_qWordHere 94 = .ok (.getfield 218, 3) := by decide +kernel
theorem d_Model_qWordHere_97 : decode og_c_Model_qWordHere 97 = .ok (.invokevirtual 265, 3) := by decide +kernel
theorem d_Model_qWordHere_100 : decode og_c_Model_qWordHere 100 = .ok (.ifCond .eq 6, 3) := by decide +kernel
theorem d_Model_qWordHere_103 : decode og_c_Model_qWordHere 103 = .ok (.bipush 7, 2) := by decide +kernel
theorem d_Model_qWordHere_105 : decode og_c_Model_qWordHere 105 = .ok (.ireturn, 1) := by decide +kernel
theorem d_Model_qWordHere_106 : decode og_c_Model_qWordHere 106 = .ok (.aload_n 0, 1) := by decide +kernel
theorem d_Model_qWordHere_107 : decode og_c_Model_qWordHere 107 = .ok (.aload_n 0, 1) := by decide +kernel
theorem d_Model_qWordHere_108 : decode og_c_Model_qWordHere 108 = .ok (.getfield 221, 3) := by decide +kernel
theorem d_Model_qWordHere_111 : decode og_c_Model_qWordHere 111 = .ok (.invokevirtual 265, 3) := by decide +kernel
theorem d_Model_qWordHere_114 : decode og_c_Model_qWordHere 114 = .ok (.ifCond .eq 6, 3) := by decide +kernel
theorem d_Model_qWordHere_117 : decode og_c_Model_qWordHere 117 = .ok (.bipush 8, 2) := by decide +kernel
theorem d_Model_qWordHere_119 : decode og_c_Model_qWordHere 119 = .ok (.ireturn, 1) := by decide +kernel
theorem d_Model_qWordHere_120 : decode og_c_Model_qWordHere 120 = .ok (.aload_n 0, 1) := by decide +kernel
theorem d_Model_qWordHere_121 : decode og_c_Model_qWordHere 121 = .ok (.aload_n 0, 1) := by decide +kernel
theorem d_Model_qWordHere_122 : decode og_c_Model_qWordHere 122 = .ok (.getfield 224, 3) := by decide +kernel
theorem d_Model_qWordHere_125 : decode og_c_Model_qWordHere 125 = .ok (.invokevirtual 265, 3) := by decide +kernel
theorem d_Model_qWordHere_128 : decode og_c_Model_qWordHere 128 = .ok (.ifCond .eq 6, 3) := by decide +kernel
theorem d_Model_qWordHere_131 : decode og_c_Model_qWordHere 131 = .ok (.bipush 9, 2) := by decide +kernel
theorem d_Model_qWordHere_133 : decode og_c_Model_qWordHere 133 = .ok (.ireturn, 1) := by decide +kernel
theorem d_Model_qWordHere_134 : decode og_c_Model_qWordHere 134 = .ok (.iconst (-1), 1) := by decide +kernel
theorem d_Model_qWordHere_135 : decode og_c_Model_qWordHere 135 = .ok (.ireturn, 1) := by decide +kernel
def m_Model_qWordHere : og_Dn := og_den [17] 1 0 (og_seq (og_if (og_cb (og_call m_Model_isHere [og_loc 0, og_fix (fun _ => 1060) (og_loc 0)])) (og_ret (og_k 0)) (og_skip)) (og_seq (og_if (og_cb (og_call m_Model_isHere [og_loc 0, og_fix (fun _ => 1061) (og_loc 0)])) (og_ret (og_k 1)) (og_skip)) (og_seq (og_if (og_cb (og_call m_Model_isHere [og_loc 0, og_fix (fun _ => 1062) (og_loc 0)])) (og_ret (og_k 2)) (og_skip)) (og_seq (og_if (og_cb (og_call m_Model_isHere [og_loc 0, og_fix (fun _ => 1063) (og_loc 0)])) (og_ret (og_k 3)) (og_skip)) (og_seq (og_if (og_cb (og_call m_Model_isHere [og_loc 0, og_fix (fun _ => 1064) (og_loc 0)])) (og_ret (og_k 4)) (og_skip)) (og_seq (og_if (og_cb (og_call m_Model_isHere [og_loc 0, og_fix (fun _ => 1065) (og_loc 0)])) (og_ret (og_k 5)) (og_skip)) (og_seq (og_if (og_cb (og_call m_Model_isHere [og_loc 0, og_fix (fun _ => 1066) (og_loc 0)])) (og_ret (og_k 6)) (og_skip)) (og_seq (og_if (og_cb (og_call m_Model_isHere [og_loc 0, og_fix (fun _ => 1067) (og_loc 0)])) (og_ret (og_k 7)) (og_skip)) (og_seq (og_if (og_cb (og_call m_Model_isHere [og_loc 0, og_fix (fun _ => 1068) (og_loc 0)])) (og_ret (og_k 8)) (og_skip)) (og_seq (og_if (og_cb (og_call m_Model_isHere [og_loc 0, og_fix (fun _ => 1069) (og_loc 0)])) (og_ret (og_k 9)) (og_skip)) (og_ret (og_k (-1)))))))))))))
set_option maxRecDepth 20000 in
theorem ok_Model_qWordHere : og_MOK og_y_Model_qWordHere og_c_Model_qWordHere 1 0 3 [17] m_Model_qWordHere := og_method (b := 0) (lt' := []) (by decide +kernel) (by decide) (by decide) (og_sseq (og_sif (T := 11) (F := 13) (og_cbeq (tgt := 13) (og_callVz (og_acons (og_aload_n (i := 0) (t := 15) (j := 0) (by rfl) (by rfl) d_Model_qWordHere_0) (og_acons (og_genc (og_f_Model_ageAsked (og_aload_n (i := 0) (t := 15) (j := 0) (by rfl) (by rfl) d_Model_qWordHere_1) og_w1223 d_Model_qWordHere_2) (by rfl)) (og_anil))) (by decide) ok_Model_isHere (v_Model_isHere (by decide)) og_w1476 d_Model_qWordHere_5) d_Model_qWordHere_8 (by decide)) (og_sreti (og_iconst (by decide) d_Model_qWordHere_11) d_Model_qWordHere_12) (og_sskip)) (og_sseq (og_sif (T := 24) (F := 26) (og_cbeq (tgt := 26) (og_callVz (og_acons (og_aload_n (i := 0) (t := 15) (j := 0) (by rfl) (by rfl) d_Model_qWordHere_13) (og_acons (og_genc (og_f_Model_tallAsked (og_aload_n (i := 0) (t := 15) (j := 0) (by rfl) (by rfl) d_Model_qWordHere_14) og_w1224 d_Model_qWordHere_15) (by rfl)) (og_anil))) (by decide) ok_Model_isHere (v_Model_isHere (by decide)) og_w1476 d_Model_qWordHere_18) d_Model_qWordHere_21 (by decide)) (og_sreti (og_iconst (by decide) d_Model_qWordHere_24) d_Model_qWordHere_25) (og_sskip)) (og_sseq (og_sif (T := 37) (F := 39) (og_cbeq (tgt := 39) (og_callVz (og_acons (og_aload_n (i := 0) (t := 15) (j := 0) (by rfl) (by rfl) d_Model_qWordHere_26) (og_acons (og_genc (og_f_Model_willAsked (og_aload_n (i := 0) (t := 15) (j := 0) (by rfl) (by rfl) d_Model_qWordHere_27) og_w1225 d_Model_qWordHere_28) (by rfl)) (og_anil))) (by decide) ok_Model_isHere (v_Model_isHere (by decide)) og_w1476 d_Model_qWordHere_31) d_Model_qWordHere_34 (by decide)) (og_sreti (og_iconst (by decide) d_Model_qWordHere_37) d_Model_qWordHere_38) (og_sskip)) (og_sseq (og_sif (T := 50) (F := 52) (og_cbeq (tgt := 52) (og_callVz (og_acons (og_aload_n (i := 0) (t := 15) (j := 0) (by rfl) (by rfl) d_Model_qWordHere_39) (og_acons (og_genc (og_f_Model_monthAsked (og_aload_n (i := 0) (t := 15) (j := 0) (by rfl) (by rfl) d_Model_qWordHere_40) og_w1226 d_Model_qWordHere_41) (by rfl)) (og_anil))) (by decide) ok_Model_isHere (v_Model_isHere (by decide)) og_w1476 d_Model_qWordHere_44) d_Model_qWordHere_47 (by decide)) (og_sreti (og_iconst (by decide) d_Model_qWordHere_50) d_Model_qWordHere_51) (og_sskip)) (og_sseq (og_sif (T := 63) (F := 65) (og_cbeq (tgt := 65) (og_callVz (og_acons (og_aload_n (i := 0) (t := 15) (j := 0) (by rfl) (by rfl) d_Model_qWordHere_52) (og_acons (og_genc (og_f_Model_askedAsked (og_aload_n (i := 0) (t := 15) (j := 0) (by rfl) (by rfl) d_Model_qWordHere_53) og_w1227 d_Model_qWordHere_54) (by rfl)) (og_anil))) (by decide) ok_Model_isHere (v_Model_isHere (by decide)) og_w1476 d_Model_qWordHere_57) d_Model_qWordHere_60 (by decide)) (og_sreti (og_iconst (by decide) d_Model_qWordHere_63) d_Model_qWordHere_64) (og_sskip)) (og_sseq (og_sif (T := 76) (F := 78) (og_cbeq (tgt := 78) (og_callVz (og_acons (og_aload_n (i := 0) (t := 15) (j := 0) (by rfl) (by rfl) d_Model_qWordHere_65) (og_acons (og_genc (og_f_Model_takenAsked (og_aload_n (i := 0) (t := 15) (j := 0) (by rfl) (by rfl) d_Model_qWordHere_66) og_w1228 d_Model_qWordHere_67) (by rfl)) (og_anil))) (by decide) ok_Model_isHere (v_Model_isHere (by decide)) og_w1476 d_Model_qWordHere_70) d_Model_qWordHere_73 (by decide)) (og_sreti (og_iconst (by decide) d_Model_qWordHere_76) d_Model_qWordHere_77) (og_sskip)) (og_sseq (og_sif (T := 89) (F := 92) (og_cbeq (tgt := 92) (og_callVz (og_acons (og_aload_n (i := 0) (t := 15) (j := 0) (by rfl) (by rfl) d_Model_qWordHere_78) (og_acons (og_genc (og_f_Model_numberAsked (og_aload_n (i := 0) (t := 15) (j := 0) (by rfl) (by rfl) d_Model_qWordHere_79) og_w1229 d_Model_qWordHere_80) (by rfl)) (og_anil))) (by decide) ok_Model_isHere (v_Model_isHere (by decide)) og_w1476 d_Model_qWordHere_83) d_Model_qWordHere_86 (by decide)) (og_sreti (og_bipush (by decide) d_Model_qWordHere_89) d_Model_qWordHere_91) (og_sskip)) (og_sseq (og_sif (T := 103) (F := 106) (og_cbeq (tgt := 106) (og_callVz (og_acons (og_aload_n (i := 0) (t := 15) (j := 0) (by rfl) (by rfl) d_Model_qWordHere_92) (og_acons (og_genc (og_f_Model_aliveAsked (og_aload_n (i := 0) (t := 15) (j := 0) (by rfl) (by rfl) d_Model_qWordHere_93) og_w1230 d_Model_qWordHere_94) (by rfl)) (og_anil))) (by decide) ok_Model_isHere (v_Model_isHere (by decide)) og_w1476 d_Model_qWordHere_97) d_Model_qWordHere_100 (by decide)) (og_sreti (og_bipush (by decide) d_Model_qWordHere_103) d_Model_qWordHere_105) (og_sskip)) (og_sseq (og_sif (T := 117) (F := 120) (og_cbeq (tgt := 120) (og_callVz (og_acons (og_aload_n (i := 0) (t := 15) (j := 0) (by rfl) (by rfl) d_Model_qWordHere_106) (og_acons (og_genc (og_f_Model_fitsAsked (og_aload_n (i := 0) (t := 15) (j := 0) (by rfl) (by rfl) d_Model_qWordHere_107) og_w1231 d_Model_qWordHere_108) (by rfl)) (og_anil))) (by decide) ok_Model_isHere (v_Model_isHere (by decide)) og_w1476 d_Model_qWordHere_111) d_Model_qWordHere_114 (by decide)) (og_sreti (og_bipush (by decide) d_Model_qWordHere_117) d_Model_qWordHere_119) (og_sskip)) (og_sseq (og_sif (T := 131) (F := 134) (og_cbeq (tgt := 134) (og_callVz (og_acons (og_aload_n (i := 0) (t := 15) (j := 0) (by rfl) (by rfl) d_Model_qWordHere_120) (og_acons (og_genc (og_f_Model_dueofAsked (og_aload_n (i := 0) (t := 15) (j := 0) (by rfl) (by rfl) d_Model_qWordHere_121) og_w1232 d_Model_qWordHere_122) (by rfl)) (og_anil))) (by decide) ok_Model_isHere (v_Model_isHere (by decide)) og_w1476 d_Model_qWordHere_125) d_Model_qWordHere_128 (by decide)) (og_sreti (og_bipush (by decide) d_Model_qWordHere_131) d_Model_qWordHere_133) (og_sskip)) (og_sreti (og_iconst (by decide) d_Model_qWordHere_134) d_Model_qWordHere_135))))))))))) (fun h => by cases h)
abbrev og_c_Model_qWordOf : ByteArray := prog_14_method_110_code
abbrev og_y_Model_qWordOf : MethodName := ⟨"OpenGravesModel", "qWordOf", "(II)I"⟩
theorem v_Model_qWordOf {own : String} {idx dep : Nat} (h : 4 + 1 ≤ dep) : og_sV own idx og_y_Model_qWordOf og_c_Model_qWordOf 4 0 4 dep 13 2 := ⟨⟨12, og_sl_Model, og_T_Model, 102, rfl, by decide, rfl⟩, og_w1560, (og_memP (⟨"OpenGravesModel", "qWordOf", "(II)I"⟩, 102) (List.mem_of_getElem? (i := 71) (by decide +kernel))), og_w17, og_w1561, ⟨by decide +kernel, by decide +kernel, by decide +kernel⟩, h, by decide⟩
theorem d_Model_qWordOf_0 : decode og_c_Model_qWordOf 0 = .ok (.aload_n 0, 1) := by decide +kernel
theorem d_Model_qWordOf_1 : decode og_c_Model_qWordOf 1 = .ok (.invokevirtual 597, 3) := by decide +kernel
theorem d_Model_qWordOf_4 : decode og_c_Model_qWordOf 4 = .ok (.istore_n 3, 1) := by decide +kernel
theorem d_Model_qWordOf_5 : decode og_c_Model_qWordOf 5 = .ok (.iload_n 3, 1) := by decide +kernel
theorem d_Model_qWordOf_6 : decode og_c_Model_qWordOf 6 = .ok (.iload_n 1, 1) := by decide +kernel
theorem d_Model_qWordOf_7 : decode og_c_Model_qWordOf 7 = .ok (.if_icmp .lt 20, 3) := by decide +kernel
theorem d_Model_qWordOf_10 : decode og_c_Model_qWordOf 10 = .ok (.iload_n 3, 1) := by decide +kernel
theorem d_Model_qWordOf_11 : decode og_c_Model_qWordOf 11 = .ok (.iload_n 2, 1) := by decide +kernel
theorem d_Model_qWordOf_12 : decode og_c_Model_qWordOf 12 = .ok (.if_icmp .ge 15, 3) := by decide +kernel
theorem d_Model_qWordOf_15 : decode og_c_Model_qWordOf 15 = .ok (.aload_n 0, 1) := by decide +kernel
theorem d_Model_qWordOf_16 : decode og_c_Model_qWordOf 16 = .ok (.iload_n 3, 1) := by decide +kernel
theorem d_Model_qWordOf_17 : decode og_c_Model_qWordOf 17 = .ok (.invokevirtual 600, 3) := by decide +kernel
theorem d_Model_qWordOf_20 : decode og_c_Model_qWordOf 20 = .ok (.ifCond .eq 7, 3) := by decide +kernel
theorem d_Model_qWordOf_23 : decode og_c_Model_qWordOf 23 = .ok (.iload_n 3, 1) := by decide +kernel
theorem d_Model_qWordOf_24 : decode og_c_Model_qWordOf 24 = .ok (.goto 4, 3) := by decide +kernel
theorem d_Model_qWordOf_27 : decode og_c_Model_qWordOf 27 = .ok (.iconst (-1), 1) := by decide +kernel
theorem d_Model_qWordOf_28 : decode og_c_Model_qWordOf 28 = .ok (.ireturn, 1) := by decide +kernel
def m_Model_qWordOf : og_Dn := og_den [17, 0, 0] 4 0 (og_seq (og_set 3 (og_call m_Model_qWordHere [og_loc 0])) (og_ret (og_ei (og_and (og_and (og_cc og_rge (og_loc 3) (og_loc 1)) (og_cc og_rlt (og_loc 3) (og_loc 2))) (og_cb (og_call m_Model_isAllowed [og_loc 0, og_loc 3]))) (og_loc 3) (og_k (-1)))))
set_option maxRecDepth 20000 in
theorem ok_Model_qWordOf : og_MOK og_y_Model_qWordOf og_c_Model_qWordOf 4 0 4 [17, 0, 0] m_Model_qWordOf := og_method (b := 0) (lt' := []) (by decide +kernel) (by decide) (by decide) (og_sseq (og_istore_n (i := 3) (lt' := [(0, 17), (1, 0), (2, 0), (3, 0)]) (og_callVi (og_acons (og_aload_n (i := 0) (t := 15) (j := 0) (by rfl) (by rfl) d_Model_qWordOf_0) (og_anil)) (by decide) ok_Model_qWordHere (v_Model_qWordHere (by decide)) og_w1562 d_Model_qWordOf_1) (by rfl) (by decide) (by decide) d_Model_qWordOf_4) (og_sreti (og_eite (og_cand (og_cand (og_ccn og_n_ge (og_ilt (tgt := 27) (og_iload_n (i := 3) (j := 3) (by rfl) (by rfl) d_Model_qWordOf_5) (og_iload_n (i := 1) (j := 1) (by rfl) (by rfl) d_Model_qWordOf_6) d_Model_qWordOf_7 (by decide))) (og_ccn og_n_lt (og_ige (tgt := 27) (og_iload_n (i := 3) (j := 3) (by rfl) (by rfl) d_Model_qWordOf_10) (og_iload_n (i := 2) (j := 2) (by rfl) (by rfl) d_Model_qWordOf_11) d_Model_qWordOf_12 (by decide)))) (og_cbeq (tgt := 27) (og_callVz (og_acons (og_aload_n (i := 0) (t := 15) (j := 0) (by rfl) (by rfl) d_Model_qWordOf_15) (og_acons (og_iload_n (i := 3) (j := 3) (by rfl) (by rfl) d_Model_qWordOf_16) (og_anil))) (by decide) ok_Model_isAllowed (v_Model_isAllowed (by decide)) og_w1566 d_Model_qWordOf_17) d_Model_qWordOf_20 (by decide))) (og_iload_n (i := 3) (j := 3) (by rfl) (by rfl) d_Model_qWordOf_23) d_Model_qWordOf_24 (by decide) (og_iconst (by decide) d_Model_qWordOf_27)) d_Model_qWordOf_28)) (fun h => by cases h)
abbrev og_c_Model_qAsksWord : ByteArray := prog_14_method_111_code
abbrev og_y_Model_qAsksWord : MethodName := ⟨"OpenGravesModel", "qAsksWord", "(I)V"⟩
theorem v_Model_qAsksWord {own : String} {idx dep : Nat} (h : 5 + 1 ≤ dep) : og_sV own idx og_y_Model_qAsksWord og_c_Model_qAsksWord 2 2 5 dep 13 1 := ⟨⟨12, og_sl_Model, og_T_Model, 102, rfl, by decide, rfl⟩, og_w1580, (og_memP (⟨"OpenGravesModel", "qAsksWord", "(I)V"⟩, 102) (List.mem_of_getElem? (i := 76) (by decide +kernel))), og_w17, og_w1581, ⟨by decide +kernel, by decide +kernel, by decide +kernel⟩, h, by decide⟩
theorem d_Model_qAsksWord_0 : decode og_c_Model_qAsksWord 0 = .ok (.iload_n 1, 1) := by decide +kernel
theorem d_Model_qAsksWord_1 : decode og_c_Model_qAsksWord 1 = .ok (.tableswitch 150 0 8 #[51, 62, 73, 84, 95, 106, 117, 128, 139], 51) := by decide +kernel
theorem d_Model_qAsksWord_52 : decode og_c_Model_qAsksWord 52 = .ok (.aload_n 0, 1) := by decide +kernel
theorem d_Model_qAsksWord_53 : decode og_c_Model_qAsksWord 53 = .ok (.aload_n 0, 1) := by decide +kernel
theorem d_Model_qAsksWord_54 : decode og_c_Model_qAsksWord 54 = .ok (.getfield 197, 3) := by decide +kernel
theorem d_Model_qAsksWord_57 : decode og_c_Model_qAsksWord 57 = .ok (.invokevirtual 314, 3) := by decide +kernel
theorem d_Model_qAsksWord_60 : decode og_c_Model_qAsksWord 60 = .ok (.goto 99, 3) := by decide +kernel
theorem d_Model_qAsksWord_63 : decode og_c_Model_qAsksWord 63 = .ok (.aload_n 0, 1) := by decide +kernel
theorem d_Model_qAsksWord_64 : decode og_c_Model_qAsksWord 64 = .ok (.aload_n 0, 1) := by decide +kernel
theorem d_Model_qAsksWord_65 : decode og_c_Model_qAsksWord 65 = .ok (.getfield 200, 3) := by decide +kernel
theorem d_Model_qAsksWord_68 : decode og_c_Model_qAsksWord 68 = .ok (.invokevirtual 314, 3) := by decide +kernel
theorem d_Model_qAsksWord_71 : decode og_c_Model_qAsksWord 71 = .ok (.goto 88, 3) := by decide +kernel
theorem d_Model_qAsksWord_74 : decode og_c_Model_qAsksWord 74 = .ok (.aload_n 0, 1) := by decide +kernel
theorem d_Model_qAsksWord_75 : decode og_c_Model_qAsksWord 75 = .ok (.aload_n 0, 1) := by decide +kernel
theorem d_Model_qAsksWord_76 : decode og_c_Model_qAsksWord 76 = .ok (.getfield 203, 3) := by decide +kernel
theorem d_Model_qAsksWord_79 : decode og_c_Model_qAsksWord 79 = .ok (.invokevirtual 314, 3) := by decide +kernel
theorem d_Model_qAsksWord_82 : decode og_c_Model_qAsksWord 82 = .ok (.goto 77, 3) := by decide +kernel
theorem d_Model_qAsksWord_85 : decode og_c_Model_qAsksWord 85 = .ok (.aload_n 0, 1) := by decide +kernel
theorem d_Model_qAsksWord_86 : decode og_c_Model_qAsksWord 86 = .ok (.aload_n 0, 1) := by decide +kernel
theorem d_Model_qAsksWord_87 : decode og_c_Model_qAsksWord 87 = .ok (.getfield 206, 3) := by decide +kernel
theorem d_Model_qAsksWord_90 : decode og_c_Model_qAsksWord 90 = .ok (.invokevirtual 314, 3) := by decide +kernel
theorem d_Model_qAsksWord_93 : decode og_c_Model_qAsksWord 93 = .ok (.goto 66, 3) := by decide +kernel
theorem d_Model_qAsksWord_96 : decode og_c_Model_qAsksWord 96 = .ok (.aload_n 0, 1) := by decide +kernel
theorem d_Model_qAsksWord_97 : decode og_c_Model_qAsksWord 97 = .ok (.aload_n 0, 1) := by decide +kernel
theorem d_Model_qAsksWord_98 : decode og_c_Model_qAsksWord 98 = .ok (.getfield 209, 3) := by decide +kernel
theorem d_Model_qAsksWord_101 : decode og_c_Model_qAsksWord 101 = .ok (.invokevirtual 314, 3) := by decide +kernel
theorem d_Model_qAsksWord_104 : decode og_c_Model_qAsksWord 104 = .ok (.goto 55, 3) := by decide +kernel
theorem d_Model_qAsksWord_107 : decode og_c_Model_qAsksWord 107 = .ok (.aload_n 0, 1) := by decide +kernel
theorem d_Model_qAsksWord_108 : decode og_c_Model_qAsksWord 108 = .ok (.aload_n 0, 1) := by decide +kernel
theorem d_Model_qAsksWord_109 : decode og_c_Model_qAsksWord 109 = .ok (.getfield 212, 3) := by decide +kernel
theorem d_Model_qAsksWord_112 : decode og_c_Model_qAsksWord 112 = .ok (.invokevirtual 314, 3) := by decide +kernel
theorem d_Model_qAsksWord_115 : decode og_c_Model_qAsksWord 115 = .ok (.goto 44, 3) := by decide +kernel
theorem d_Model_qAsksWord_118 : decode og_c_Model_qAsksWord 118 = .ok (.aload_n 0, 1) := by decide +kernel
theorem d_Model_qAsksWord_119 : decode og_c_Model_qAsksWord 119 = .ok (.aload_n 0, 1) := by decide +kernel
theorem d_Model_qAsksWord_120 : decode og_c_Model_qAsksWord 120 = .ok (.getfield 215, 3) := by decide +kernel
theorem d_Model_qAsksWord_123 : decode og_c_Model_qAsksWord 123 = .ok (.invokevirtual 314, 3) := by decide +kernel
theorem d_Model_qAsksWord_126 : decode og_c_Model_qAsksWord 126 = .ok (.goto 33, 3) := by decide +kernel
theorem d_Model_qAsksWord_129 : decode og_c_Model_qAsksWord 129 = .ok (.aload_n 0, 1) := by decide +kernel
theorem d_Model_qAsksWord_130 : decode og_c_Model_qAsksWord 130 = .ok (.aload_n 0, 1) := by decide +kernel
theorem d_Model_qAsksWord_131 : decode og_c_Model_qAsksWord 131 = .ok (.getfield 218, 3) := by decide +kernel
theorem d_Model_qAsksWord_134 : decode og_c_Model_qAsksWord 134 = .ok (.invokevirtual 314, 3) := by decide +kernel
theorem d_Model_qAsksWord_137 : decode og_c_Model_qAsksWord 137 = .ok (.goto 22, 3) := by decide +kernel
theorem d_Model_qAsksWord_140 : decode og_c_Model_qAsksWord 140 = .ok (.aload_n 0, 1) := by decide +kernel
theorem d_Model_qAsksWord_141 : decode og_c_Model_qAsksWord 141 = .ok (.aload_n 0, 1) := by decide +kernel
theorem d_Model_qAsksWord_142 : decode og_c_Model_qAsksWord 142 = .ok (.getfield 221, 3) := by decide +kernel
theorem d_Model_qAsksWord_145 : decode og_c_Model_qAsksWord 145 = .ok (.invokevirtual 314, 3) := by decide +kernel
theorem d_Model_qAsksWord_148 : decode og_c_Model_qAsksWord 148 = .ok (.goto 11, 3) := by decide +kernel
theorem d_Model_qAsksWord_151 : decode og_c_Model_qAsksWord 151 = .ok (.aload_n 0, 1) := by decide +kernel
theorem d_Model_qAsksWord_152 : decode og_c_Model_qAsksWord 152 = .ok (.aload_n 0, 1) := by decide +kernel
theorem d_Model_qAsksWord_153 : decode og_c_Model_qAsksWord 153 = .ok (.getfield 224, 3) := by decide +kernel
theorem d_Model_qAsksWord_156 : decode og_c_Model_qAsksWord 156 = .ok (.invokevirtual 314, 3) := by decide +kernel
theorem d_Model_qAsksWord_159 : decode og_c_Model_qAsksWord 159 = .ok (.return_, 1) := by decide +kernel
def m_Model_qAsksWord : og_Dn := og_den [17, 0] 2 2 (og_sw (og_loc 1) (fun x => og_cs x [0] (og_seq (og_exp (og_call m_Model_asks [og_loc 0, og_fix (fun _ => 1060) (og_loc 0)])) (og_brk)) (og_cs x [1] (og_seq (og_exp (og_call m_Model_asks [og_loc 0, og_fix (fun _ => 1061) (og_loc 0)])) (og_brk)) (og_cs x [2] (og_seq (og_exp (og_call m_Model_asks [og_loc 0, og_fix (fun _ => 1062) (og_loc 0)])) (og_brk)) (og_cs x [3] (og_seq (og_exp (og_call m_Model_asks [og_loc 0, og_fix (fun _ => 1063) (og_loc 0)])) (og_brk)) (og_cs x [4] (og_seq (og_exp (og_call m_Model_asks [og_loc 0, og_fix (fun _ => 1064) (og_loc 0)])) (og_brk)) (og_cs x [5] (og_seq (og_exp (og_call m_Model_asks [og_loc 0, og_fix (fun _ => 1065) (og_loc 0)])) (og_brk)) (og_cs x [6] (og_seq (og_exp (og_call m_Model_asks [og_loc 0, og_fix (fun _ => 1066) (og_loc 0)])) (og_brk)) (og_cs x [7] (og_seq (og_exp (og_call m_Model_asks [og_loc 0, og_fix (fun _ => 1067) (og_loc 0)])) (og_brk)) (og_cs x [8] (og_seq (og_exp (og_call m_Model_asks [og_loc 0, og_fix (fun _ => 1068) (og_loc 0)])) (og_brk)) (og_seq (og_exp (og_call m_Model_asks [og_loc 0, og_fix (fun _ => 1069) (og_loc 0)])) (og_brk))))))))))))
set_option maxRecDepth 20000 in
theorem ok_Model_qAsksWord : og_MOK og_y_Model_qAsksWord og_c_Model_qAsksWord 2 2 5 [17, 0] m_Model_qAsksWord := og_method (b := 159) (lt' := [(0, 17), (1, 0)]) (by decide +kernel) (by decide) (by decide) (og_stab (b1 := 159) (d := 151) (cs := [(0, 52), (1, 63), (2, 74), (3, 85), (4, 96), (5, 107), (6, 118), (7, 129), (8, 140)]) (og_iload_n (i := 1) (j := 1) (by rfl) (by rfl) d_Model_qAsksWord_0) d_Model_qAsksWord_1 (by decide) (by decide) (fun x => og_scs (fun hx => og_sat (by simp at hx; subst hx; rfl) (og_sseq (og_gS (b' := 159) (og_callVv (og_acons (og_aload_n (i := 0) (t := 15) (j := 0) (by rfl) (by rfl) d_Model_qAsksWord_52) (og_acons (og_genc (og_f_Model_ageAsked (og_aload_n (i := 0) (t := 15) (j := 0) (by rfl) (by rfl) d_Model_qAsksWord_53) og_w1223 d_Model_qAsksWord_54) (by rfl)) (og_anil))) ok_Model_asks (v_Model_asks (by decide)) og_w1509 d_Model_qAsksWord_57) d_Model_qAsksWord_60 (by decide)) (og_sbrk (by decide)))) (fun hx => og_scs (fun hx => og_sat (by simp at hx; subst hx; rfl) (og_sseq (og_gS (b' := 159) (og_callVv (og_acons (og_aload_n (i := 0) (t := 15) (j := 0) (by rfl) (by rfl) d_Model_qAsksWord_63) (og_acons (og_genc (og_f_Model_tallAsked (og_aload_n (i := 0) (t := 15) (j := 0) (by rfl) (by rfl) d_Model_qAsksWord_64) og_w1224 d_Model_qAsksWord_65) (by rfl)) (og_anil))) ok_Model_asks (v_Model_asks (by decide)) og_w1509 d_Model_qAsksWord_68) d_Model_qAsksWord_71 (by decide)) (og_sbrk (by decide)))) (fun hx => og_scs (fun hx => og_sat (by simp at hx; subst hx; rfl) (og_sseq (og_gS (b' := 159) (og_callVv (og_acons (og_aload_n (i := 0) (t := 15) (j := 0) (by rfl) (by rfl) d_Model_qAsksWord_74) (og_acons (og_genc (og_f_Model_willAsked (og_aload_n (i := 0) (t := 15) (j := 0) (by rfl) (by rfl) d_Model_qAsksWord_75) og_w1225 d_Model_qAsksWord_76) (by rfl)) (og_anil))) ok_Model_asks (v_Model_asks (by decide)) og_w1509 d_Model_qAsksWord_79) d_Model_qAsksWord_82 (by decide)) (og_sbrk (by decide)))) (fun hx => og_scs (fun hx => og_sat (by simp at hx; subst hx; rfl) (og_sseq (og_gS (b' := 159) (og_callVv (og_acons (og_aload_n (i := 0) (t := 15) (j := 0) (by rfl) (by rfl) d_Model_qAsksWord_85) (og_acons (og_genc (og_f_Model_monthAsked (og_aload_n (i := 0) (t := 15) (j := 0) (by rfl) (by rfl) d_Model_qAsksWord_86) og_w1226 d_Model_qAsksWord_87) (by rfl)) (og_anil))) ok_Model_asks (v_Model_asks (by decide)) og_w1509 d_Model_qAsksWord_90) d_Model_qAsksWord_93 (by decide)) (og_sbrk (by decide)))) (fun hx => og_scs (fun hx => og_sat (by simp at hx; subst hx; rfl) (og_sseq (og_gS (b' := 159) (og_callVv (og_acons (og_aload_n (i := 0) (t := 15) (j := 0) (by rfl) (by rfl) d_Model_qAsksWord_96) (og_acons (og_genc (og_f_Model_askedAsked (og_aload_n (i := 0) (t := 15) (j := 0) (by rfl) (by rfl) d_Model_qAsksWord_97) og_w1227 d_Model_qAsksWord_98) (by rfl)) (og_anil))) ok_Model_asks (v_Model_asks (by decide)) og_w1509 d_Model_qAsksWord_101) d_Model_qAsksWord_104 (by decide)) (og_sbrk (by decide)))) (fun hx => og_scs (fun hx => og_sat (by simp at hx; subst hx; rfl) (og_sseq (og_gS (b' := 159) (og_callVv (og_acons (og_aload_n (i := 0) (t := 15) (j := 0) (by rfl) (by rfl) d_Model_qAsksWord_107) (og_acons (og_genc (og_f_Model_takenAsked (og_aload_n (i := 0) (t := 15) (j := 0) (by rfl) (by rfl) d_Model_qAsksWord_108) og_w1228 d_Model_qAsksWord_109) (by rfl)) (og_anil))) ok_Model_asks (v_Model_asks (by decide)) og_w1509 d_Model_qAsksWord_112) d_Model_qAsksWord_115 (by decide)) (og_sbrk (by decide)))) (fun hx => og_scs (fun hx => og_sat (by simp at hx; subst hx; rfl) (og_sseq (og_gS (b' := 159) (og_callVv (og_acons (og_aload_n (i := 0) (t := 15) (j := 0) (by rfl) (by rfl) d_Model_qAsksWord_118) (og_acons (og_genc (og_f_Model_numberAsked (og_aload_n (i := 0) (t := 15) (j := 0) (by rfl) (by rfl) d_Model_qAsksWord_119) og_w1229 d_Model_qAsksWord_120) (by rfl)) (og_anil))) ok_Model_asks (v_Model_asks (by decide)) og_w1509 d_Model_qAsksWord_123) d_Model_qAsksWord_126 (by decide)) (og_sbrk (by decide)))) (fun hx => og_scs (fun hx => og_sat (by simp at hx; subst hx; rfl) (og_sseq (og_gS (b' := 159) (og_callVv (og_acons (og_aload_n (i := 0) (t := 15) (j := 0) (by rfl) (by rfl) d_Model_qAsksWord_129) (og_acons (og_genc (og_f_Model_aliveAsked (og_aload_n (i := 0) (t := 15) (j := 0) (by rfl) (by rfl) d_Model_qAsksWord_130) og_w1230 d_Model_qAsksWord_131) (by rfl)) (og_anil))) ok_Model_asks (v_Model_asks (by decide)) og_w1509 d_Model_qAsksWord_134) d_Model_qAsksWord_137 (by decide)) (og_sbrk (by decide)))) (fun hx => og_scs (fun hx => og_sat (by simp at hx; subst hx; rfl) (og_sseq (og_gS (b' := 159) (og_callVv (og_acons (og_aload_n (i := 0) (t := 15) (j := 0) (by rfl) (by rfl) d_Model_qAsksWord_140) (og_acons (og_genc (og_f_Model_fitsAsked (og_aload_n (i := 0) (t := 15) (j := 0) (by rfl) (by rfl) d_Model_qAsksWord_141) og_w1231 d_Model_qAsksWord_142) (by rfl)) (og_anil))) ok_Model_asks (v_Model_asks (by decide)) og_w1509 d_Model_qAsksWord_145) d_Model_qAsksWord_148 (by decide)) (og_sbrk (by decide)))) (fun hx => og_sat (og_lkn (by simp_all)) (og_sseq (og_callVv (og_acons (og_aload_n (i := 0) (t := 15) (j := 0) (by rfl) (by rfl) d_Model_qAsksWord_151) (og_acons (og_genc (og_f_Model_dueofAsked (og_aload_n (i := 0) (t := 15) (j := 0) (by rfl) (by rfl) d_Model_qAsksWord_152) og_w1232 d_Model_qAsksWord_153) (by rfl)) (og_anil))) ok_Model_asks (v_Model_asks (by decide)) og_w1509 d_Model_qAsksWord_156) (og_sbrk (by decide)))))))))))))) (fun _ => d_Model_qAsksWord_159)
abbrev og_c_Model_qDrops : ByteArray := prog_14_method_105_code
abbrev og_y_Model_qDrops : MethodName := ⟨"OpenGravesModel", "qDrops", "()V"⟩
theorem v_Model_qDrops {own : String} {idx dep : Nat} (h : 2 + 1 ≤ dep) : og_sV own idx og_y_Model_qDrops og_c_Model_qDrops 1 2 2 dep 13 0 := ⟨⟨12, og_sl_Model, og_T_Model, 102, rfl, by decide, rfl⟩, og_w1588, (og_memP (⟨"OpenGravesModel", "qDrops", "()V"⟩, 102) (List.mem_of_getElem? (i := 78) (by decide +kernel))), og_w17, og_w1589, ⟨by decide +kernel, by decide +kernel, by decide +kernel⟩, h, by decide⟩
theorem d_Model_qDrops_0 : decode og_c_Model_qDrops 0 = .ok (.aload_n 0, 1) := by decide +kernel
theorem d_Model_qDrops_1 : decode og_c_Model_qDrops 1 = .ok (.dup, 1) := by decide +kernel
theorem d_Model_qDrops_2 : decode og_c_Model_qDrops 2 = .ok (.getfield 329, 3) := by decide +kernel
theorem d_Model_qDrops_5 : decode og_c_Model_qDrops 5 = .ok (.iconst 1, 1) := by decide +kernel
theorem d_Model_qDrops_6 : decode og_c_Model_qDrops 6 = .ok (.isub, 1) := by decide +kernel
theorem d_Model_qDrops_7 : decode og_c_Model_qDrops 7 = .ok (.putfield 329, 3) := by decide +kernel
theorem d_Model_qDrops_10 : decode og_c_Model_qDrops 10 = .ok (.aload_n 0, 1) := by decide +kernel
theorem d_Model_qDrops_11 : decode og_c_Model_qDrops 11 = .ok (.aload_n 0, 1) := by decide +kernel
theorem d_Model_qDrops_12 : decode og_c_Model_qDrops 12 = .ok (.getfield 230, 3) := by decide +kernel
theorem d_Model_qDrops_15 : decode og_c_Model_qDrops 15 = .ok (.aload_n 0, 1) := by decide +kernel
theorem d_Model_qDrops_16 : decode og_c_Model_qDrops 16 = .ok (.getfield 329, 3) := by decide +kernel
theorem d_Model_qDrops_19 : decode og_c_Model_qDrops 19 = .ok (.iaload, 1) := by decide +kernel
theorem d_Model_qDrops_20 : decode og_c_Model_qDrops 20 = .ok (.invokevirtual 588, 3) := by decide +kernel
theorem d_Model_qDrops_23 : decode og_c_Model_qDrops 23 = .ok (.return_, 1) := by decide +kernel
def m_Model_qDrops : og_Dn := og_den [17] 1 2 (og_seq (og_pop32 og_psub 93 (og_loc 0) (og_k 1)) (og_exp (og_call m_Model_qCode [og_loc 0, og_ald 1700 (og_fix (fun _ => 1071) (og_loc 0)) (og_get 93 (og_loc 0))])))
set_option maxRecDepth 20000 in
theorem ok_Model_qDrops : og_MOK og_y_Model_qDrops og_c_Model_qDrops 1 2 2 [17] m_Model_qDrops := og_method (b := 23) (lt' := [(0, 17)]) (by decide +kernel) (by decide) (by decide) (og_sseq (og_qsub_Model_qWaits (og_aload_n (i := 0) (t := 15) (j := 0) (by rfl) (by rfl) d_Model_qDrops_0) d_Model_qDrops_1 d_Model_qDrops_2 (og_iconst (by decide) d_Model_qDrops_5) d_Model_qDrops_6 og_w1236 d_Model_qDrops_7) (og_callVv (og_acons (og_aload_n (i := 0) (t := 15) (j := 0) (by rfl) (by rfl) d_Model_qDrops_10) (og_acons (og_iald (N := 1700) (og_f_Model_qWait (og_aload_n (i := 0) (t := 15) (j := 0) (by rfl) (by rfl) d_Model_qDrops_11) og_w1235 d_Model_qDrops_12) (by rfl) (og_f_Model_qWaits (og_aload_n (i := 0) (t := 15) (j := 0) (by rfl) (by rfl) d_Model_qDrops_15) og_w1236 d_Model_qDrops_16) d_Model_qDrops_19) (og_anil))) ok_Model_qCode (v_Model_qCode (by decide)) og_w1546 d_Model_qDrops_20)) (fun _ => d_Model_qDrops_23)
abbrev og_c_Model_qEndsPart : ByteArray := prog_14_method_112_code
abbrev og_y_Model_qEndsPart : MethodName := ⟨"OpenGravesModel", "qEndsPart", "()V"⟩
theorem v_Model_qEndsPart {own : String} {idx dep : Nat} (h : 3 + 1 ≤ dep) : og_sV own idx og_y_Model_qEndsPart og_c_Model_qEndsPart 1 2 3 dep 13 0 := ⟨⟨12, og_sl_Model, og_T_Model, 102, rfl, by decide, rfl⟩, og_w1584, (og_memP (⟨"OpenGravesModel", "qEndsPart", "()V"⟩, 102) (List.mem_of_getElem? (i := 77) (by decide +kernel))), og_w17, og_w1585, ⟨by decide +kernel, by decide +kernel, by decide +kernel⟩, h, by decide⟩
theorem d_Model_qEndsPart_0 : decode og_c_Model_qEndsPart 0 = .ok (.aload_n 0, 1) := by decide +kernel
theorem d_Model_qEndsPart_1 : decode og_c_Model_qEndsPart 1 = .ok (.getfield 242, 3) := by decide +kernel
theorem d_Model_qEndsPart_4 : decode og_c_Model_qEndsPart 4 = .ok (.ifCond .ne 47, 3) := by decide +kernel
theorem d_Model_qEndsPart_7 : decode og_c_Model_qEndsPart 7 = .ok (.aload_n 0, 1) := by decide +kernel
theorem d_Model_qEndsPart_8 : decode og_c_Model_qEndsPart 8 = .ok (.getfield 329, 3) := by decide +kernel
theorem d_Model_qEndsPart_11 : decode og_c_Model_qEndsPart 11 = .ok (.aload_n 0, 1) := by decide +kernel
theorem d_Model_qEndsPart_12 : decode og_c_Model_qEndsPart 12 = .ok (.getfield 335, 3) := by decide +kernel
theorem d_Model_qEndsPart_15 : decode og_c_Model_qEndsPart 15 = .ok (.if_icmp .le 36, 3) := by decide +kernel
theorem d_Model_qEndsPart_18 : decode og_c_Model_qEndsPart 18 = .ok (.aload_n 0, 1) := by decide +kernel
theorem d_Model_qEndsPart_19 : decode og_c_Model_qEndsPart 19 = .ok (.getfield 230, 3) := by decide +kernel
theorem d_Model_qEndsPart_22 : decode og_c_Model_qEndsPart 22 = .ok (.aload_n 0, 1) := by decide +kernel
theorem d_Model_qEndsPart_23 : decode og_c_Model_qEndsPart 23 = .ok (.getfield 329, 3) := by decide +kernel
theorem d_Model_qEndsPart_26 : decode og_c_Model_qEndsPart 26 = .ok (.iconst 1, 1) := by decide +kernel
theorem d_Model_qEndsPart_27 : decode og_c_Model_qEndsPart 27 = .ok (.isub, 1) := by decide +kernel
theorem d_Model_qEndsPart_28 : decode og_c_Model_qEndsPart 28 = .ok (.iaload, 1) := by decide +kernel
theorem d_Model_qEndsPart_29 : decode og_c_Model_qEndsPart 29 = .ok (.bipush 60, 2) := by decide +kernel
theorem d_Model_qEndsPart_31 : decode og_c_Model_qEndsPart 31 = .ok (.if_icmp .lt 20, 3) := by decide +kernel
theorem d_Model_qEndsPart_34 : decode og_c_Model_qEndsPart 34 = .ok (.aload_n 0, 1) := by decide +kernel
theorem d_Model_qEndsPart_35 : decode og_c_Model_qEndsPart 35 = .ok (.dup, 1) := by decide +kernel
theorem d_Model_qEndsPart_36 : decode og_c_Model_qEndsPart 36 = .ok (.getfield 332, 3) := by decide +kernel
theorem d_Model_qEndsPart_39 : decode og_c_Model_qEndsPart 39 = .ok (.iconst 1, 1) := by decide +kernel
theorem d_Model_qEndsPart_40 : decode og_c_Model_qEndsPart 40 = .ok (.isub, 1) := by decide +kernel
theorem d_Model_qEndsPart_41 : decode og_c_Model_qEndsPart 41 = .ok (.putfield 332, 3) := by decide +kernel
theorem d_Model_qEndsPart_44 : decode og_c_Model_qEndsPart 44 = .ok (.aload_n 0, 1) := by decide +kernel
theorem d_Model_qEndsPart_45 : decode og_c_Model_qEndsPart 45 = .ok (.invokevirtual 594, 3) := by decide +kernel
theorem d_Model_qEndsPart_48 : decode og_c_Model_qEndsPart 48 = .ok (.goto (-48), 3) := by decide +kernel
theorem d_Model_qEndsPart_51 : decode og_c_Model_qEndsPart 51 = .ok (.return_, 1) := by decide +kernel
def m_Model_qEndsPart : og_Dn := og_den [17] 1 2 (og_while (og_and (og_and (og_cc og_req (og_get 5 (og_loc 0)) (og_k 0)) (og_cc og_rgt (og_get 93 (og_loc 0)) (og_get 95 (og_loc 0)))) (og_cc og_rge (og_ald 1700 (og_fix (fun _ => 1071) (og_loc 0)) (og_sub (og_get 93 (og_loc 0)) (og_k 1))) (og_k 60))) (og_seq (og_pop32 og_psub 94 (og_loc 0) (og_k 1)) (og_exp (og_call m_Model_qDrops [og_loc 0]))) (og_skip))
set_option maxRecDepth 20000 in
theorem ok_Model_qEndsPart : og_MOK og_y_Model_qEndsPart og_c_Model_qEndsPart 1 2 3 [17] m_Model_qEndsPart := og_method (b := 51) (lt' := [(0, 17)]) (by decide +kernel) (by decide) (by decide) (og_swhile (T := 34) (F := 51) (cp0 := 0) (og_cand (og_cand (og_ccn og_n_eq (og_zne (tgt := 51) (og_f_Model_bad (og_aload_n (i := 0) (t := 15) (j := 0) (by rfl) (by rfl) d_Model_qEndsPart_0) og_w1148 d_Model_qEndsPart_1) d_Model_qEndsPart_4 (by decide))) (og_ccn og_n_gt (og_ile (tgt := 51) (og_f_Model_qWaits (og_aload_n (i := 0) (t := 15) (j := 0) (by rfl) (by rfl) d_Model_qEndsPart_7) og_w1236 d_Model_qEndsPart_8) (og_f_Model_qBase (og_aload_n (i := 0) (t := 15) (j := 0) (by rfl) (by rfl) d_Model_qEndsPart_11) og_w1238 d_Model_qEndsPart_12) d_Model_qEndsPart_15 (by decide)))) (og_ccn og_n_ge (og_ilt (tgt := 51) (og_iald (N := 1700) (og_f_Model_qWait (og_aload_n (i := 0) (t := 15) (j := 0) (by rfl) (by rfl) d_Model_qEndsPart_18) og_w1235 d_Model_qEndsPart_19) (by rfl) (og_isub (og_f_Model_qWaits (og_aload_n (i := 0) (t := 15) (j := 0) (by rfl) (by rfl) d_Model_qEndsPart_22) og_w1236 d_Model_qEndsPart_23) (og_iconst (by decide) d_Model_qEndsPart_26) d_Model_qEndsPart_27) d_Model_qEndsPart_28) (og_bipush (by decide) d_Model_qEndsPart_29) d_Model_qEndsPart_31 (by decide)))) (og_sseq (og_qsub_Model_qOpened (og_aload_n (i := 0) (t := 15) (j := 0) (by rfl) (by rfl) d_Model_qEndsPart_34) d_Model_qEndsPart_35 d_Model_qEndsPart_36 (og_iconst (by decide) d_Model_qEndsPart_39) d_Model_qEndsPart_40 og_w1237 d_Model_qEndsPart_41) (og_gS (b' := 0) (og_callVv (og_acons (og_aload_n (i := 0) (t := 15) (j := 0) (by rfl) (by rfl) d_Model_qEndsPart_44) (og_anil)) ok_Model_qDrops (v_Model_qDrops (by decide)) og_w1586 d_Model_qEndsPart_45) d_Model_qEndsPart_48 (by decide))) (og_sskip)) (fun _ => d_Model_qEndsPart_51)
abbrev og_c_Model_qPartTold : ByteArray := prog_14_method_113_code
abbrev og_y_Model_qPartTold : MethodName := ⟨"OpenGravesModel", "qPartTold", "()V"⟩
theorem v_Model_qPartTold {own : String} {idx dep : Nat} (h : 6 + 1 ≤ dep) : og_sV own idx og_y_Model_qPartTold og_c_Model_qPartTold 6 2 6 dep 13 0 := ⟨⟨12, og_sl_Model, og_T_Model, 102, rfl, by decide, rfl⟩, og_w1556, (og_memP (⟨"OpenGravesModel", "qPartTold", "()V"⟩, 102) (List.mem_of_getElem? (i := 70) (by decide +kernel))), og_w17, og_w1557, ⟨by decide +kernel, by decide +kernel, by decide +kernel⟩, h, by decide⟩
theorem d_Model_qPartTold_0 : decode og_c_Model_qPartTold 0 = .ok (.iconst 1, 1) := by decide +kernel
theorem d_Model_qPartTold_1 : decode og_c_Model_qPartTold 1 = .ok (.istore_n 1, 1) := by decide +kernel
theorem d_Model_qPartTold_2 : decode og_c_Model_qPartTold 2 = .ok (.iload_n 1, 1) := by decide +kernel
theorem d_Model_qPartTold_3 : decode og_c_Model_qPartTold 3 = .ok (.ifCond .eq 183, 3) := by decide +kernel
theorem d_Model_qPartTold_6 : decode og_c_Model_qPartTold 6 = .ok (.aload_n 0, 1) := by decide +kernel
theorem d_Model_qPartTold_7 : decode og_c_Model_qPartTold 7 = .ok (.getfield 242, 3) := by decide +kernel
theorem d_Model_qPartTold_10 : decode og_c_Model_qPartTold 10 = .ok (.ifCond .ne 176, 3) := by decide +kernel
theorem d_Model_qPartTold_13 : decode og_c_Model_qPartTold 13 = .ok (.aload_n 0, 1) := by decide +kernel
theorem d_Model_qPartTold_14 : decode og_c_Model_qPartTold 14 = .ok (.invokevirtual 254, 3) := by decide +kernel
theorem d_Model_qPartTold_17 : decode og_c_Model_qPartTold 17 = .ok (.istore_n 2, 1) := by decide +kernel
theorem d_Model_qPartTold_18 : decode og_c_Model_qPartTold 18 = .ok (.aload_n 0, 1) := by decide +kernel
theorem d_Model_qPartTold_19 : decode og_c_Model_qPartTold 19 = .ok (.bipush 8, 2) := by decide +kernel
theorem d_Model_qPartTold_21 : decode og_c_Model_qPartTold 21 = .ok (.bipush 10, 2) := by decide +kernel
theorem d_Model_qPartTold_23 : decode og_c_Model_qPartTold 23 = .ok (.invokevirtual 603, 3) := by decide +kernel
theorem d_Model_qPartTold_26 : decode og_c_Model_qPartTold 26 = .ok (.istore_n 3, 1) := by decide +kernel
theorem d_Model_qPartTold_27 : decode og_c_Model_qPartTold 27 = .ok (.iload_n 2, 1) := by decide +kernel
theorem d_Model_qPartTold_28 : decode og_c_Model_qPartTold 28 = .ok (.bipush 40, 2) := by decide +kernel
theorem d_Model_qPartTold_30 : decode og_c_Model_qPartTold 30 = .ok (.if_icmp .ne 26, 3) := by decide +kernel
theorem d_Model_qPartTold_33 : decode og_c_Model_qPartTold 33 = .ok (.aload_n 0, 1) := by decide +kernel
theorem d_Model_qPartTold_34 : decode og_c_Model_qPartTold 34 = .ok (.bipush 20, 2) := by decide +kernel
theorem d_Model_qPartTold_36 : decode og_c_Model_qPartTold 36 = .ok (.aload_n 0, 1) := by decide +kernel
theorem d_Model_qPartTold_37 : decode og_c_Model_qPartTold 37 = .ok (.getfield 248, 3) := by decide +kernel
theorem d_Model_qPartTold_40 : decode og_c_Model_qPartTold 40 = .ok (.invokevirtual 606, 3) := by decide +kernel
theorem d_Model_qPartTold_43 : decode og_c_Model_qPartTold 43 = .ok (.aload_n 0, 1) := by decide +kernel
theorem d_Model_qPartTold_44 : decode og_c_Model_qPartTold 44 = .ok (.dup, 1) := by decide +kernel
theorem d_Model_qPartTold_45 : decode og_c_Model_qPartTold 45 = .ok (.getfield 248, 3) := by decide +kernel
theorem d_Model_qPartTold_48 : decode og_c_Model_qPartTold 48 = .ok (.iconst 1, 1) := by decide +kernel
theorem d_Model_qPartTold_49 : decode og_c_Model_qPartTold 49 = .ok (.iadd, 1) := by decide +kernel
theorem d_Model_qPartTold_50 : decode og_c_Model_qPartTold 50 = .ok (.putfield 248, 3) := by decide +kernel
theorem d_Model_qPartTold_53 : decode og_c_Model_qPartTold 53 = .ok (.goto 130, 3) := by decide +kernel
theorem d_Model_qPartTold_56 : decode og_c_Model_qPartTold 56 = .ok (.aload_n 0, 1) := by decide +kernel
theorem d_Model_qPartTold_57 : decode og_c_Model_qPartTold 57 = .ok (.aload_n 0, 1) := by decide +kernel
theorem d_Model_qPartTold_58 : decode og_c_Model_qPartTold 58 = .ok (.getfield 191, 3) := by decide +kernel
theorem d_Model_qPartTold_61 : decode og_c_Model_qPartTold 61 = .ok (.invokevirtual 265, 3) := by decide +kernel
theorem d_Model_qPartTold_64 : decode og_c_Model_qPartTold 64 = .ok (.ifCond .ne 14, 3) := by decide +kernel
theorem d_Model_qPartTold_67 : decode og_c_Model_qPartTold 67 = .ok (.aload_n 0, 1) := by decide +kernel
theorem d_Model_qPartTold_68 : decode og_c_Model_qPartTold 68 = .ok (.aload_n 0, 1) := by decide +kernel
theorem d_Model_qPartTold_69 : decode og_c_Model_qPartTold 69 = .ok (.getfield 194, 3) := by decide +kernel
theorem d_Model_qPartTold_72 : decode og_c_Model_qPartTold 72 = .ok (.invokevirtual 265, 3) := by decide +kernel
theorem d_Model_qPartTold_75 : decode og_c_Model_qPartTold 75 = .ok (.ifCond .eq 78, 3) := by decide +kernel
theorem d_Model_qPartTold_78 : decode og_c_Model_qPartTold 78 = .ok (.aload_n 0, 1) := by decide +kernel
theorem d_Model_qPartTold_79 : decode og_c_Model_qPartTold 79 = .ok (.aload_n 0, 1) := by decide +kernel
theorem d_Model_qPartTold_80 : decode og_c_Model_qPartTold 80 = .ok (.getfield 191, 3) := by decide +kernel
theorem d_Model_qPartTold_83 : decode og_c_Model_qPartTold 83 = .ok (.invokevirtual 269, 3) := by decide +kernel
theorem d_Model_qPartTold_86 : decode og_c_Model_qPartTold 86 = .ok (.istore 4, 2) := by decide +kernel
theorem d_Model_qPartTold_88 : decode og_c_Model_qPartTold 88 = .ok (.iload 4, 2) := by decide +kernel
theorem d_Model_qPartTold_90 : decode og_c_Model_qPartTold 90 = .ok (.ifCond .ne 11, 3) := by decide +kernel
theorem d_Model_qPartTold_93 : decode og_c_Model_qPartTold 93 = .ok (.aload_n 0, 1) := by decide +kernel
theorem d_Model_qPartTold_94 : decode og_c_Model_qPartTold 94 = .ok (.aload_n 0, 1) := by decide +kernel
theorem d_Model_qPartTold_95 : decode og_c_Model_qPartTold 95 = .ok (.getfield 194, 3) := by decide +kernel
theorem d_Model_qPartTold_98 : decode og_c_Model_qPartTold 98 = .ok (.invokevirtual 314, 3) := by decide +kernel
theorem d_Model_qPartTold_101 : decode og_c_Model_qPartTold 101 = .ok (.aload_n 0, 1) := by decide +kernel
theorem d_Model_qPartTold_102 : decode og_c_Model_qPartTold 102 = .ok (.invokevirtual 254, 3) := by decide +kernel
theorem d_Model_qPartTold_105 : decode og_c_Model_qPartTold 105 = .ok (.bipush 40, 2) := by decide +kernel
theorem d_Model_qPartTold_107 : decode og_c_Model_qPartTold 107 = .ok (.if_icmp .ne 10, 3) := by decide +kernel
theorem d_Model_qPartTold_110 : decode og_c_Model_qPartTold 110 = .ok (.aload_n 0, 1) := by decide +kernel
theorem d_Model_qPartTold_111 : decode og_c_Model_qPartTold 111 = .ok (.getfield 248, 3) := by decide +kernel
theorem d_Model_qPartTold_114 : decode og_c_Model_qPartTold 114 = .ok (.goto 4, 3) := by decide +kernel
theorem d_Model_qPartTold_117 : decode og_c_Model_qPartTold 117 = .ok (.iconst (-1), 1) := by decide +kernel
theorem d_Model_qPartTold_118 : decode og_c_Model_qPartTold 118 = .ok (.istore 5, 2) := by decide +kernel
theorem d_Model_qPartTold_120 : decode og_c_Model_qPartTold 120 = .ok (.iload 5, 2) := by decide +kernel
theorem d_Model_qPartTold_122 : decode og_c_Model_qPartTold 122 = .ok (.iconst (-1), 1) := by decide +kernel
theorem d_Model_qPartTold_123 : decode og_c_Model_qPartTold 123 = .ok (.if_icmp .eq 21, 3) := by decide +kernel
theorem d_Model_qPartTold_126 : decode og_c_Model_qPartTold 126 = .ok (.aload_n 0, 1) := by decide +kernel
theorem d_Model_qPartTold_127 : decode og_c_Model_qPartTold 127 = .ok (.iload 4, 2) := by decide +kernel
theorem d_Model_qPartTold_129 : decode og_c_Model_qPartTold 129 = .ok (.ifCond .eq 8, 3) := by decide +kernel
theorem d_Model_qPartTold_132 : decode og_c_Model_qPartTold 132 = .ok (.bipush 21, 2) := by decide +kernel
theorem d_Model_qPartTold_134 : decode og_c_Model_qPartTold 134 = .ok (.goto 5, 3) := by decide +kernel
theorem d_Model_qPartTold_137 : decode og_c_Model_qPartTold 137 = .ok (.bipush 22, 2) := by decide +kernel
theorem d_Model_qPartTold_139 : decode og_c_Model_qPartTold 139 = .ok (.iload 5, 2) := by decide +kernel
theorem d_Model_qPartTold_141 : decode og_c_Model_qPartTold 141 = .ok (.invokevirtual 606, 3) := by decide +kernel
theorem d_Model_qPartTold_144 : decode og_c_Model_qPartTold 144 = .ok (.aload_n 0, 1) := by decide +kernel
theorem d_Model_qPartTold_145 : decode og_c_Model_qPartTold 145 = .ok (.bipush 40, 2) := by decide +kernel
theorem d_Model_qPartTold_147 : decode og_c_Model_qPartTold 147 = .ok (.invokevirtual 357, 3) := by decide +kernel
theorem d_Model_qPartTold_150 : decode og_c_Model_qPartTold 150 = .ok (.goto 33, 3) := by decide +kernel
theorem d_Model_qPartTold_153 : decode og_c_Model_qPartTold 153 = .ok (.iload_n 3, 1) := by decide +kernel
theorem d_Model_qPartTold_154 : decode og_c_Model_qPartTold 154 = .ok (.iconst (-1), 1) := by decide +kernel
theorem d_Model_qPartTold_155 : decode og_c_Model_qPartTold 155 = .ok (.if_icmp .eq 26, 3) := by decide +kernel
theorem d_Model_qPartTold_158 : decode og_c_Model_qPartTold 158 = .ok (.aload_n 0, 1) := by decide +kernel
theorem d_Model_qPartTold_159 : decode og_c_Model_qPartTold 159 = .ok (.bipush 60, 2) := by decide +kernel
theorem d_Model_qPartTold_161 : decode og_c_Model_qPartTold 161 = .ok (.iload_n 3, 1) := by decide +kernel
theorem d_Model_qPartTold_162 : decode og_c_Model_qPartTold 162 = .ok (.iadd, 1) := by decide +kernel
theorem d_Model_qPartTold_163 : decode og_c_Model_qPartTold 163 = .ok (.bipush 8, 2) := by decide +kernel
theorem d_Model_qPartTold_165 : decode og_c_Model_qPartTold 165 = .ok (.isub, 1) := by decide +kernel
theorem d_Model_qPartTold_166 : decode og_c_Model_qPartTold 166 = .ok (.aload_n 0, 1) := by decide +kernel
theorem d_Model_qPartTold_167 : decode og_c_Model_qPartTold 167 = .ok (.getfield 248, 3) := by decide +kernel
theorem d_Model_qPartTold_170 : decode og_c_Model_qPartTold 170 = .ok (.invokevirtual 606, 3) := by decide +kernel
theorem d_Model_qPartTold_173 : decode og_c_Model_qPartTold 173 = .ok (.aload_n 0, 1) := by decide +kernel
theorem d_Model_qPartTold_174 : decode og_c_Model_qPartTold 174 = .ok (.iload_n 3, 1) := by decide +kernel
theorem d_Model_qPartTold_175 : decode og_c_Model_qPartTold 175 = .ok (.invokevirtual 609, 3) := by decide +kernel
theorem d_Model_qPartTold_178 : decode og_c_Model_qPartTold 178 = .ok (.goto 5, 3) := by decide +kernel
theorem d_Model_qPartTold_181 : decode og_c_Model_qPartTold 181 = .ok (.iconst 0, 1) := by decide +kernel
theorem d_Model_qPartTold_182 : decode og_c_Model_qPartTold 182 = .ok (.istore_n 1, 1) := by decide +kernel
theorem d_Model_qPartTold_183 : decode og_c_Model_qPartTold 183 = .ok (.goto (-181), 3) := by decide +kernel
theorem d_Model_qPartTold_186 : decode og_c_Model_qPartTold 186 = .ok (.aload_n 0, 1) := by decide +kernel
theorem d_Model_qPartTold_187 : decode og_c_Model_qPartTold 187 = .ok (.getfield 242, 3) := by decide +kernel
theorem d_Model_qPartTold_190 : decode og_c_Model_qPartTold 190 = .ok (.ifCond .eq 4, 3) := by decide +kernel
theorem d_Model_qPartTold_193 : decode og_c_Model_qPartTold 193 = .ok (.return_, 1) := by decide +kernel
theorem d_Model_qPartTold_194 : decode og_c_Model_qPartTold 194 = .ok (.aload_n 0, 1) := by decide +kernel
theorem d_Model_qPartTold_195 : decode og_c_Model_qPartTold 195 = .ok (.iconst 0, 1) := by decide +kernel
theorem d_Model_qPartTold_196 : decode og_c_Model_qPartTold 196 = .ok (.bipush 8, 2) := by decide +kernel
theorem d_Model_qPartTold_198 : decode og_c_Model_qPartTold 198 = .ok (.invokevirtual 603, 3) := by decide +kernel
theorem d_Model_qPartTold_201 : decode og_c_Model_qPartTold 201 = .ok (.istore_n 2, 1) := by decide +kernel
theorem d_Model_qPartTold_202 : decode og_c_Model_qPartTold 202 = .ok (.iload_n 2, 1) := by decide +kernel
theorem d_Model_qPartTold_203 : decode og_c_Model_qPartTold 203 = .ok (.iconst (-1), 1) := by decide +kernel
theorem d_Model_qPartTold_204 : decode og_c_Model_qPartTold 204 = .ok (.if_icmp .eq 8, 3) := by decide +kernel
theorem d_Model_qPartTold_207 : decode og_c_Model_qPartTold 207 = .ok (.aload_n 0, 1) := by decide +kernel
theorem d_Model_qPartTold_208 : decode og_c_Model_qPartTold 208 = .ok (.iload_n 2, 1) := by decide +kernel
theorem d_Model_qPartTold_209 : decode og_c_Model_qPartTold 209 = .ok (.invokevirtual 609, 3) := by decide +kernel
theorem d_Model_qPartTold_212 : decode og_c_Model_qPartTold 212 = .ok (.aload_n 0, 1) := by decide +kernel
theorem d_Model_qPartTold_213 : decode og_c_Model_qPartTold 213 = .ok (.iload_n 2, 1) := by decide +kernel
theorem d_Model_qPartTold_214 : decode og_c_Model_qPartTold 214 = .ok (.iconst (-1), 1) := by decide +kernel
theorem d_Model_qPartTold_215 : decode og_c_Model_qPartTold 215 = .ok (.if_icmp .eq 10, 3) := by decide +kernel
theorem d_Model_qPartTold_218 : decode og_c_Model_qPartTold 218 = .ok (.bipush 40, 2) := by decide +kernel
theorem d_Model_qPartTold_220 : decode og_c_Model_qPartTold 220 = .ok (.iload_n 2, 1) := by decide +kernel
theorem d_Model_qPartTold_221 : decode og_c_Model_qPartTold 221 = .ok (.iadd, 1) := by decide +kernel
theorem d_Model_qPartTold_222 : decode og_c_Model_qPartTold 222 = .ok (.goto 15, 3) := by decide +kernel
theorem d_Model_qPartTold_225 : decode og_c_Model_qPartTold 225 = .ok (.sipush 1000, 3) := by decide +kernel
theorem d_Model_qPartTold_228 : decode og_c_Model_qPartTold 228 = .ok (.aload_n 0, 1) := by decide +kernel
theorem d_Model_qPartTold_229 : decode og_c_Model_qPartTold 229 = .ok (.iconst 0, 1) := by decide +kernel
theorem d_Model_qPartTold_230 : decode og_c_Model_qPartTold 230 = .ok (.sipush 9999, 3) := by decide +kernel
theorem d_Model_qPartTold_233 : decode og_c_Model_qPartTold 233 = .ok (.invokevirtual 318, 3) := by decide +kernel
theorem d_Model_qPartTold_236 : decode og_c_Model_qPartTold 236 = .ok (.iadd, 1) := by decide +kernel
theorem d_Model_qPartTold_237 : decode og_c_Model_qPartTold 237 = .ok (.invokevirtual 588, 3) := by decide +kernel
theorem d_Model_qPartTold_240 : decode og_c_Model_qPartTold 240 = .ok (.aload_n 0, 1) := by decide +kernel
theorem d_Model_qPartTold_241 : decode og_c_Model_qPartTold 241 = .ok (.invokevirtual 612, 3) := by decide +kernel
theorem d_Model_qPartTold_244 : decode og_c_Model_qPartTold 244 = .ok (.return_, 1) := by decide +kernel
def m_Model_qPartTold : og_Dn := og_den [17] 6 2 (og_seq (og_set 1 (og_k 1)) (og_cut (og_while (og_and (og_cb (og_loc 1)) (og_cc og_req (og_get 5 (og_loc 0)) (og_k 0))) (og_seq (og_set 2 (og_call m_Model_look [og_loc 0])) (og_seq (og_set 3 (og_call m_Model_qWordOf [og_loc 0, og_k 8, og_k 10])) (og_if (og_cc og_req (og_loc 2) (og_k 40)) (og_seq (og_exp (og_call m_Model_qOpens [og_loc 0, og_k 20, og_get 2 (og_loc 0)])) (og_pop32 og_padd 2 (og_loc 0) (og_k 1))) (og_if (og_or (og_cb (og_call m_Model_isHere [og_loc 0, og_fix (fun _ => 1058) (og_loc 0)])) (og_cb (og_call m_Model_isHere [og_loc 0, og_fix (fun _ => 1059) (og_loc 0)]))) (og_seq (og_set 4 (og_call m_Model_takes [og_loc 0, og_fix (fun _ => 1058) (og_loc 0)])) (og_cut (og_if (og_not (og_cb (og_loc 4))) (og_exp (og_call m_Model_asks [og_loc 0, og_fix (fun _ => 1059) (og_loc 0)])) (og_skip)) (og_seq (og_set 5 (og_ei (og_cc og_req (og_call m_Model_look [og_loc 0]) (og_k 40)) (og_get 2 (og_loc 0)) (og_k (-1)))) (og_cut (og_if (og_cc og_rne (og_loc 5) (og_k (-1))) (og_exp (og_call m_Model_qOpens [og_loc 0, og_ei (og_cb (og_loc 4)) (og_k 21) (og_k 22), og_loc 5])) (og_skip)) (og_exp (og_call m_Model_asksSign [og_loc 0, og_k 40])))))) (og_if (og_cc og_rne (og_loc 3) (og_k (-1))) (og_seq (og_exp (og_call m_Model_qOpens [og_loc 0, og_sub (og_add (og_k 60) (og_loc 3)) (og_k 8), og_get 2 (og_loc 0)])) (og_exp (og_call m_Model_qAsksWord [og_loc 0, og_loc 3]))) (og_set 1 (og_k 0))))))) (og_skip)) (og_seq (og_if (og_cc og_rne (og_get 5 (og_loc 0)) (og_k 0)) (og_retv) (og_skip)) (og_seq (og_set 2 (og_call m_Model_qWordOf [og_loc 0, og_k 0, og_k 8])) (og_cut (og_if (og_cc og_rne (og_loc 2) (og_k (-1))) (og_exp (og_call m_Model_qAsksWord [og_loc 0, og_loc 2])) (og_skip)) (og_seq (og_exp (og_call m_Model_qCode [og_loc 0, og_ei (og_cc og_rne (og_loc 2) (og_k (-1))) (og_add (og_k 40) (og_loc 2)) (og_add (og_k 1000) (og_call m_Model_number [og_loc 0, og_k 0, og_k 9999]))])) (og_exp (og_call m_Model_qEndsPart [og_loc 0]))))))))
set_option maxRecDepth 20000 in
theorem ok_Model_qPartTold : og_MOK og_y_Model_qPartTold og_c_Model_qPartTold 6 2 6 [17] m_Model_qPartTold := og_method (b := 244) (lt' := [(0, 17)]) (by decide +kernel) (by decide) (by decide) (og_sdrop (lt' := [(0, 17), (1, 0), (2, 0)]) (lt2 := [(0, 17)]) (og_sseq (og_istore_n (i := 1) (lt' := [(0, 17), (1, 0)]) (og_iconst (by decide) d_Model_qPartTold_0) (by rfl) (by decide) (by decide) d_Model_qPartTold_1) (og_scut (og_swhile (T := 13) (F := 186) (cp0 := 2) (og_cand (og_cbeq (tgt := 186) (og_iload_n (i := 1) (j := 1) (by rfl) (by rfl) d_Model_qPartTold_2) d_Model_qPartTold_3 (by decide)) (og_ccn og_n_eq (og_zne (tgt := 186) (og_f_Model_bad (og_aload_n (i := 0) (t := 15) (j := 0) (by rfl) (by rfl) d_Model_qPartTold_6) og_w1148 d_Model_qPartTold_7) d_Model_qPartTold_10 (by decide)))) (og_sdrop (lt' := [(0, 17), (1, 0), (2, 0), (3, 0)]) (lt2 := [(0, 17), (1, 0)]) (og_sseq (og_istore_n (i := 2) (lt' := [(0, 17), (1, 0), (2, 0)]) (og_callVi (og_acons (og_aload_n (i := 0) (t := 15) (j := 0) (by rfl) (by rfl) d_Model_qPartTold_13) (og_anil)) (by decide) ok_Model_look (v_Model_look (by decide)) og_w1464 d_Model_qPartTold_14) (by rfl) (by decide) (by decide) d_Model_qPartTold_17) (og_sseq (og_istore_n (i := 3) (lt' := [(0, 17), (1, 0), (2, 0), (3, 0)]) (og_callVi (og_acons (og_aload_n (i := 0) (t := 15) (j := 0) (by rfl) (by rfl) d_Model_qPartTold_18) (og_acons (og_bipush (by decide) d_Model_qPartTold_19) (og_acons (og_bipush (by decide) d_Model_qPartTold_21) (og_anil)))) (by decide) ok_Model_qWordOf (v_Model_qWordOf (by decide)) og_w1558 d_Model_qPartTold_23) (by rfl) (by decide) (by decide) d_Model_qPartTold_26) (og_sif (T := 33) (F := 56) (og_ccn og_n_eq (og_ine (tgt := 56) (og_iload_n (i := 2) (j := 2) (by rfl) (by rfl) d_Model_qPartTold_27) (og_bipush (by decide) d_Model_qPartTold_28) d_Model_qPartTold_30 (by decide))) (og_sseq (og_callVv (og_acons (og_aload_n (i := 0) (t := 15) (j := 0) (by rfl) (by rfl) d_Model_qPartTold_33) (og_acons (og_bipush (by decide) d_Model_qPartTold_34) (og_acons (og_f_Model_at (og_aload_n (i := 0) (t := 15) (j := 0) (by rfl) (by rfl) d_Model_qPartTold_36) og_w1145 d_Model_qPartTold_37) (og_anil)))) ok_Model_qOpens (v_Model_qOpens (by decide)) og_w1538 d_Model_qPartTold_40) (og_gS (b' := 2) (og_gS (b' := 183) (og_qadd_Model_at (og_aload_n (i := 0) (t := 15) (j := 0) (by rfl) (by rfl) d_Model_qPartTold_43) d_Model_qPartTold_44 d_Model_qPartTold_45 (og_iconst (by decide) d_Model_qPartTold_48) d_Model_qPartTold_49 og_w1145 d_Model_qPartTold_50) d_Model_qPartTold_53 (by decide)) d_Model_qPartTold_183 (by decide))) (og_sif (T := 78) (F := 153) (og_cor (og_cbne (tgt := 78) (og_callVz (og_acons (og_aload_n (i := 0) (t := 15) (j := 0) (by rfl) (by rfl) d_Model_qPartTold_56) (og_acons (og_genc (og_f_Model_minAsked (og_aload_n (i := 0) (t := 15) (j := 0) (by rfl) (by rfl) d_Model_qPartTold_57) og_w1221 d_Model_qPartTold_58) (by rfl)) (og_anil))) (by decide) ok_Model_isHere (v_Model_isHere (by decide)) og_w1476 d_Model_qPartTold_61) d_Model_qPartTold_64 (by decide)) (og_cbeq (tgt := 153) (og_callVz (og_acons (og_aload_n (i := 0) (t := 15) (j := 0) (by rfl) (by rfl) d_Model_qPartTold_67) (og_acons (og_genc (og_f_Model_maxAsked (og_aload_n (i := 0) (t := 15) (j := 0) (by rfl) (by rfl) d_Model_qPartTold_68) og_w1222 d_Model_qPartTold_69) (by rfl)) (og_anil))) (by decide) ok_Model_isHere (v_Model_isHere (by decide)) og_w1476 d_Model_qPartTold_72) d_Model_qPartTold_75 (by decide))) (og_sdrop (lt' := [(0, 17), (1, 0), (2, 0), (3, 0), (4, 0), (5, 0)]) (lt2 := [(0, 17), (1, 0), (2, 0), (3, 0)]) (og_sseq (og_istore (i := 4) (lt' := [(0, 17), (1, 0), (2, 0), (3, 0), (4, 0)]) (og_callVz (og_acons (og_aload_n (i := 0) (t := 15) (j := 0) (by rfl) (by rfl) d_Model_qPartTold_78) (og_acons (og_genc (og_f_Model_minAsked (og_aload_n (i := 0) (t := 15) (j := 0) (by rfl) (by rfl) d_Model_qPartTold_79) og_w1221 d_Model_qPartTold_80) (by rfl)) (og_anil))) (by decide) ok_Model_takes (v_Model_takes (by decide)) og_w1472 d_Model_qPartTold_83) (by decide) (by decide) d_Model_qPartTold_86) (og_scut (og_sif (T := 93) (F := 101) (og_cnot (og_cbne (tgt := 101) (og_iload (i := 4) (j := 4) (by rfl) d_Model_qPartTold_88) d_Model_qPartTold_90 (by decide))) (og_callVv (og_acons (og_aload_n (i := 0) (t := 15) (j := 0) (by rfl) (by rfl) d_Model_qPartTold_93) (og_acons (og_genc (og_f_Model_maxAsked (og_aload_n (i := 0) (t := 15) (j := 0) (by rfl) (by rfl) d_Model_qPartTold_94) og_w1222 d_Model_qPartTold_95) (by rfl)) (og_anil))) ok_Model_asks (v_Model_asks (by decide)) og_w1509 d_Model_qPartTold_98) (og_sskip)) (og_sseq (og_istore (i := 5) (lt' := [(0, 17), (1, 0), (2, 0), (3, 0), (4, 0), (5, 0)]) (og_eite (og_ccn og_n_eq (og_ine (tgt := 117) (og_callVi (og_acons (og_aload_n (i := 0) (t := 15) (j := 0) (by rfl) (by rfl) d_Model_qPartTold_101) (og_anil)) (by decide) ok_Model_look (v_Model_look (by decide)) og_w1464 d_Model_qPartTold_102) (og_bipush (by decide) d_Model_qPartTold_105) d_Model_qPartTold_107 (by decide))) (og_f_Model_at (og_aload_n (i := 0) (t := 15) (j := 0) (by rfl) (by rfl) d_Model_qPartTold_110) og_w1145 d_Model_qPartTold_111) d_Model_qPartTold_114 (by decide) (og_iconst (by decide) d_Model_qPartTold_117)) (by decide) (by decide) d_Model_qPartTold_118) (og_scut (og_sif (T := 126) (F := 144) (og_ccn og_n_ne (og_ieq (tgt := 144) (og_iload (i := 5) (j := 5) (by rfl) d_Model_qPartTold_120) (og_iconst (by decide) d_Model_qPartTold_122) d_Model_qPartTold_123 (by decide))) (og_callVv (og_acons (og_aload_n (i := 0) (t := 15) (j := 0) (by rfl) (by rfl) d_Model_qPartTold_126) (og_acons (og_eite (og_cbeq (tgt := 137) (og_iload (i := 4) (j := 4) (by rfl) d_Model_qPartTold_127) d_Model_qPartTold_129 (by decide)) (og_bipush (by decide) d_Model_qPartTold_132) d_Model_qPartTold_134 (by decide) (og_bipush (by decide) d_Model_qPartTold_137)) (og_acons (og_iload (i := 5) (j := 5) (by rfl) d_Model_qPartTold_139) (og_anil)))) ok_Model_qOpens (v_Model_qOpens (by decide)) og_w1538 d_Model_qPartTold_141) (og_sskip)) (og_gS (b' := 2) (og_gS (b' := 183) (og_callVv (og_acons (og_aload_n (i := 0) (t := 15) (j := 0) (by rfl) (by rfl) d_Model_qPartTold_144) (og_acons (og_bipush (by decide) d_Model_qPartTold_145) (og_anil))) ok_Model_asksSign (v_Model_asksSign (by decide)) og_w1570 d_Model_qPartTold_147) d_Model_qPartTold_150 (by decide)) d_Model_qPartTold_183 (by decide)))))) (by decide)) (og_sif (T := 158) (F := 181) (og_ccn og_n_ne (og_ieq (tgt := 181) (og_iload_n (i := 3) (j := 3) (by rfl) (by rfl) d_Model_qPartTold_153) (og_iconst (by decide) d_Model_qPartTold_154) d_Model_qPartTold_155 (by decide))) (og_sseq (og_callVv (og_acons (og_aload_n (i := 0) (t := 15) (j := 0) (by rfl) (by rfl) d_Model_qPartTold_158) (og_acons (og_isub (og_iadd (og_bipush (by decide) d_Model_qPartTold_159) (og_iload_n (i := 3) (j := 3) (by rfl) (by rfl) d_Model_qPartTold_161) d_Model_qPartTold_162) (og_bipush (by decide) d_Model_qPartTold_163) d_Model_qPartTold_165) (og_acons (og_f_Model_at (og_aload_n (i := 0) (t := 15) (j := 0) (by rfl) (by rfl) d_Model_qPartTold_166) og_w1145 d_Model_qPartTold_167) (og_anil)))) ok_Model_qOpens (v_Model_qOpens (by decide)) og_w1538 d_Model_qPartTold_170) (og_gS (b' := 2) (og_gS (b' := 183) (og_callVv (og_acons (og_aload_n (i := 0) (t := 15) (j := 0) (by rfl) (by rfl) d_Model_qPartTold_173) (og_acons (og_iload_n (i := 3) (j := 3) (by rfl) (by rfl) d_Model_qPartTold_174) (og_anil))) ok_Model_qAsksWord (v_Model_qAsksWord (by decide)) og_w1578 d_Model_qPartTold_175) d_Model_qPartTold_178 (by decide)) d_Model_qPartTold_183 (by decide))) (og_gS (b' := 2) (og_istore_n (i := 1) (lt' := [(0, 17), (1, 0), (2, 0), (3, 0)]) (og_iconst (by decide) d_Model_qPartTold_181) (by rfl) (by decide) (by decide) d_Model_qPartTold_182) d_Model_qPartTold_183 (by decide))))))) (by decide)) (og_sskip)) (og_sseq (og_sif (T := 193) (F := 194) (og_ccn og_n_ne (og_zeq (tgt := 194) (og_f_Model_bad (og_aload_n (i := 0) (t := 15) (j := 0) (by rfl) (by rfl) d_Model_qPartTold_186) og_w1148 d_Model_qPartTold_187) d_Model_qPartTold_190 (by decide))) (og_sretv d_Model_qPartTold_193) (og_sskip)) (og_sseq (og_istore_n (i := 2) (lt' := [(0, 17), (1, 0), (2, 0)]) (og_callVi (og_acons (og_aload_n (i := 0) (t := 15) (j := 0) (by rfl) (by rfl) d_Model_qPartTold_194) (og_acons (og_iconst (by decide) d_Model_qPartTold_195) (og_acons (og_bipush (by decide) d_Model_qPartTold_196) (og_anil)))) (by decide) ok_Model_qWordOf (v_Model_qWordOf (by decide)) og_w1558 d_Model_qPartTold_198) (by rfl) (by decide) (by decide) d_Model_qPartTold_201) (og_scut (og_sif (T := 207) (F := 212) (og_ccn og_n_ne (og_ieq (tgt := 212) (og_iload_n (i := 2) (j := 2) (by rfl) (by rfl) d_Model_qPartTold_202) (og_iconst (by decide) d_Model_qPartTold_203) d_Model_qPartTold_204 (by decide))) (og_callVv (og_acons (og_aload_n (i := 0) (t := 15) (j := 0) (by rfl) (by rfl) d_Model_qPartTold_207) (og_acons (og_iload_n (i := 2) (j := 2) (by rfl) (by rfl) d_Model_qPartTold_208) (og_anil))) ok_Model_qAsksWord (v_Model_qAsksWord (by decide)) og_w1578 d_Model_qPartTold_209) (og_sskip)) (og_sseq (og_callVv (og_acons (og_aload_n (i := 0) (t := 15) (j := 0) (by rfl) (by rfl) d_Model_qPartTold_212) (og_acons (og_eite (og_ccn og_n_ne (og_ieq (tgt := 225) (og_iload_n (i := 2) (j := 2) (by rfl) (by rfl) d_Model_qPartTold_213) (og_iconst (by decide) d_Model_qPartTold_214) d_Model_qPartTold_215 (by decide))) (og_iadd (og_bipush (by decide) d_Model_qPartTold_218) (og_iload_n (i := 2) (j := 2) (by rfl) (by rfl) d_Model_qPartTold_220) d_Model_qPartTold_221) d_Model_qPartTold_222 (by decide) (og_iadd (og_sipush (by decide) d_Model_qPartTold_225) (og_callVi (og_acons (og_aload_n (i := 0) (t := 15) (j := 0) (by rfl) (by rfl) d_Model_qPartTold_228) (og_acons (og_iconst (by decide) d_Model_qPartTold_229) (og_acons (og_sipush (by decide) d_Model_qPartTold_230) (og_anil)))) (by decide) ok_Model_number (v_Model_number (by decide)) og_w1513 d_Model_qPartTold_233) d_Model_qPartTold_236)) (og_anil))) ok_Model_qCode (v_Model_qCode (by decide)) og_w1546 d_Model_qPartTold_237) (og_callVv (og_acons (og_aload_n (i := 0) (t := 15) (j := 0) (by rfl) (by rfl) d_Model_qPartTold_240) (og_anil)) ok_Model_qEndsPart (v_Model_qEndsPart (by decide)) og_w1582 d_Model_qPartTold_241))))))) (by decide)) (fun _ => d_Model_qPartTold_244)
