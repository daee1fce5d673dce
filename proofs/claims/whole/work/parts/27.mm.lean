abbrev og_c_Model_isTold : ByteArray := prog_14_method_43_code
abbrev og_y_Model_isTold : MethodName := ⟨"OpenGravesModel", "isTold", "(I)Z"⟩
theorem v_Model_isTold {own : String} {idx dep : Nat} (h : 1 + 1 ≤ dep) : og_sV own idx og_y_Model_isTold og_c_Model_isTold 2 3 1 dep 13 1 := ⟨⟨12, og_sl_Model, og_T_Model, 102, rfl, by decide, rfl⟩, og_w1713, (og_memP (⟨"OpenGravesModel", "isTold", "(I)Z"⟩, 102) (List.mem_of_getElem? (i := 102) (by decide +kernel))), og_w17, og_w1714, ⟨by decide +kernel, by decide +kernel, by decide +kernel⟩, h, by decide⟩
theorem d_Model_isTold_0 : decode og_c_Model_isTold 0 = .ok (.aload_n 0, 1) := by decide +kernel
theorem d_Model_isTold_1 : decode og_c_Model_isTold 1 = .ok (.getfield 115, 3) := by decide +kernel
theorem d_Model_isTold_4 : decode og_c_Model_isTold 4 = .ok (.iconst 5, 1) := by decide +kernel
theorem d_Model_isTold_5 : decode og_c_Model_isTold 5 = .ok (.iload_n 1, 1) := by decide +kernel
theorem d_Model_isTold_6 : decode og_c_Model_isTold 6 = .ok (.iadd, 1) := by decide +kernel
theorem d_Model_isTold_7 : decode og_c_Model_isTold 7 = .ok (.iaload, 1) := by decide +kernel
theorem d_Model_isTold_8 : decode og_c_Model_isTold 8 = .ok (.iconst (-1), 1) := by decide +kernel
theorem d_Model_isTold_9 : decode og_c_Model_isTold 9 = .ok (.if_icmp .eq 7, 3) := by decide +kernel
theorem d_Model_isTold_12 : decode og_c_Model_isTold 12 = .ok (.iconst 1, 1) := by decide +kernel
theorem d_Model_isTold_13 : decode og_c_Model_isTold 13 = .ok (.goto 4, 3) := by decide +kernel
theorem d_Model_isTold_16 : decode og_c_Model_isTold 16 = .ok (.iconst 0, 1) := by decide +kernel
theorem d_Model_isTold_17 : decode og_c_Model_isTold 17 = .ok (.ireturn, 1) := by decide +kernel
def m_Model_isTold : og_Dn := og_den [17, 0] 2 3 (og_retz (og_ec (og_cc og_rne (og_ald 10 (og_fix (fun _ => 1034) (og_loc 0)) (og_add (og_k 5) (og_loc 1))) (og_k (-1)))))
set_option maxRecDepth 20000 in
theorem ok_Model_isTold : og_MOK og_y_Model_isTold og_c_Model_isTold 2 3 1 [17, 0] m_Model_isTold := og_method (b := 0) (lt' := []) (by decide +kernel) (by decide) (by decide) (og_sretz (og_econd (b := 0) (og_ccn og_n_ne (og_ieq (tgt := 16) (og_iald (N := 10) (og_f_Model_codeFrom (og_aload_n (i := 0) (t := 15) (j := 0) (by rfl) (by rfl) d_Model_isTold_0) og_w1186 d_Model_isTold_1) (by rfl) (og_iadd (og_iconst (by decide) d_Model_isTold_4) (og_iload_n (i := 1) (j := 1) (by rfl) (by rfl) d_Model_isTold_5) d_Model_isTold_6) d_Model_isTold_7) (og_iconst (by decide) d_Model_isTold_8) d_Model_isTold_9 (by decide))) d_Model_isTold_12 d_Model_isTold_13 (by decide) d_Model_isTold_16 (by rfl)) d_Model_isTold_17) (fun h => by cases h)
abbrev og_c_Model_qPuts : ByteArray := prog_14_method_123_code
abbrev og_y_Model_qPuts : MethodName := ⟨"OpenGravesModel", "qPuts", "(J)V"⟩
theorem v_Model_qPuts {own : String} {idx dep : Nat} (h : 1 + 1 ≤ dep) : og_sV own idx og_y_Model_qPuts og_c_Model_qPuts 3 2 1 dep 13 1 := ⟨⟨12, og_sl_Model, og_T_Model, 102, rfl, by decide, rfl⟩, og_w1721, (og_memP (⟨"OpenGravesModel", "qPuts", "(J)V"⟩, 102) (List.mem_of_getElem? (i := 104) (by decide +kernel))), og_w17, og_w1722, ⟨by decide +kernel, by decide +kernel, by decide +kernel⟩, h, by decide⟩
theorem d_Model_qPuts_0 : decode og_c_Model_qPuts 0 = .ok (.aload_n 0, 1) := by decide +kernel
theorem d_Model_qPuts_1 : decode og_c_Model_qPuts 1 = .ok (.getfield 233, 3) := by decide +kernel
theorem d_Model_qPuts_4 : decode og_c_Model_qPuts 4 = .ok (.aload_n 0, 1) := by decide +kernel
theorem d_Model_qPuts_5 : decode og_c_Model_qPuts 5 = .ok (.getfield 399, 3) := by decide +kernel
theorem d_Model_qPuts_8 : decode og_c_Model_qPuts 8 = .ok (.lload_n 1, 1) := by decide +kernel
theorem d_Model_qPuts_9 : decode og_c_Model_qPuts 9 = .ok (.lastore, 1) := by decide +kernel
theorem d_Model_qPuts_10 : decode og_c_Model_qPuts 10 = .ok (.aload_n 0, 1) := by decide +kernel
theorem d_Model_qPuts_11 : decode og_c_Model_qPuts 11 = .ok (.dup, 1) := by decide +kernel
theorem d_Model_qPuts_12 : decode og_c_Model_qPuts 12 = .ok (.getfield 399, 3) := by decide +kernel
theorem d_Model_qPuts_15 : decode og_c_Model_qPuts 15 = .ok (.iconst 1, 1) := by decide +kernel
theorem d_Model_qPuts_16 : decode og_c_Model_qPuts 16 = .ok (.iadd, 1) := by decide +kernel
theorem d_Model_qPuts_17 : decode og_c_Model_qPuts 17 = .ok (.putfield 399, 3) := by decide +kernel
theorem d_Model_qPuts_20 : decode og_c_Model_qPuts 20 = .ok (.return_, 1) := by decide +kernel
def m_Model_qPuts : og_Dn := og_den [17, 1] 3 2 (og_seq (og_ast 1700 (og_fix (fun _ => 1072) (og_loc 0)) (og_get 97 (og_loc 0)) (og_loc 1)) (og_pop32 og_padd 97 (og_loc 0) (og_k 1)))
set_option maxRecDepth 20000 in
theorem ok_Model_qPuts : og_MOK og_y_Model_qPuts og_c_Model_qPuts 3 2 1 [17, 1] m_Model_qPuts := og_method (b := 20) (lt' := [(0, 17), (1, 1)]) (by decide +kernel) (by decide) (by decide) (og_sseq (og_lastore (N := 1700) (og_f_Model_qPile (og_aload_n (i := 0) (t := 15) (j := 0) (by rfl) (by rfl) d_Model_qPuts_0) og_w1239 d_Model_qPuts_1) (by rfl) (og_f_Model_qPiled (og_aload_n (i := 0) (t := 15) (j := 0) (by rfl) (by rfl) d_Model_qPuts_4) og_w1240 d_Model_qPuts_5) (og_lload_n (i := 1) (j := 1) (by rfl) (by rfl) d_Model_qPuts_8) d_Model_qPuts_9) (og_qadd_Model_qPiled (og_aload_n (i := 0) (t := 15) (j := 0) (by rfl) (by rfl) d_Model_qPuts_10) d_Model_qPuts_11 d_Model_qPuts_12 (og_iconst (by decide) d_Model_qPuts_15) d_Model_qPuts_16 og_w1240 d_Model_qPuts_17)) (fun _ => d_Model_qPuts_20)
abbrev og_c_Model_qPartOf : ByteArray := prog_14_method_125_code
abbrev og_y_Model_qPartOf : MethodName := ⟨"OpenGravesModel", "qPartOf", "(II)J"⟩
theorem v_Model_qPartOf {own : String} {idx dep : Nat} (h : 4 + 1 ≤ dep) : og_sV own idx og_y_Model_qPartOf og_c_Model_qPartOf 3 1 4 dep 13 2 := ⟨⟨12, og_sl_Model, og_T_Model, 102, rfl, by decide, rfl⟩, og_w1725, (og_memP (⟨"OpenGravesModel", "qPartOf", "(II)J"⟩, 102) (List.mem_of_getElem? (i := 105) (by decide +kernel))), og_w17, og_w1726, ⟨by decide +kernel, by decide +kernel, by decide +kernel⟩, h, by decide⟩
theorem d_Model_qPartOf_0 : decode og_c_Model_qPartOf 0 = .ok (.iload_n 1, 1) := by decide +kernel
theorem d_Model_qPartOf_1 : decode og_c_Model_qPartOf 1 = .ok (.tableswitch 100 0 6 #[43, 53, 67, 77, 85, 91, 97], 43) := by decide +kernel
theorem d_Model_qPartOf_44 : decode og_c_Model_qPartOf 44 = .ok (.aload_n 0, 1) := by decide +kernel
theorem d_Model_qPartOf_45 : decode og_c_Model_qPartOf 45 = .ok (.aload_n 0, 1) := by decide +kernel
theorem d_Model_qPartOf_46 : decode og_c_Model_qPartOf 46 = .ok (.getfield 396, 3) := by decide +kernel
theorem d_Model_qPartOf_49 : decode og_c_Model_qPartOf 49 = .ok (.invokevirtual 419, 3) := by decide +kernel
theorem d_Model_qPartOf_52 : decode og_c_Model_qPartOf 52 = .ok (.i2l, 1) := by decide +kernel
theorem d_Model_qPartOf_53 : decode og_c_Model_qPartOf 53 = .ok (.lreturn, 1) := by decide +kernel
theorem d_Model_qPartOf_54 : decode og_c_Model_qPartOf 54 = .ok (.aload_n 0, 1) := by decide +kernel
theorem d_Model_qPartOf_55 : decode og_c_Model_qPartOf 55 = .ok (.getfield 106, 3) := by decide +kernel
theorem d_Model_qPartOf_58 : decode og_c_Model_qPartOf 58 = .ok (.bipush 8, 2) := by decide +kernel
theorem d_Model_qPartOf_60 : decode og_c_Model_qPartOf 60 = .ok (.aload_n 0, 1) := by decide +kernel
theorem d_Model_qPartOf_61 : decode og_c_Model_qPartOf 61 = .ok (.getfield 396, 3) := by decide +kernel
theorem d_Model_qPartOf_64 : decode og_c_Model_qPartOf 64 = .ok (.iadd, 1) := by decide +kernel
theorem d_Model_qPartOf_65 : decode og_c_Model_qPartOf 65 = .ok (.iaload, 1) := by decide +kernel
theorem d_Model_qPartOf_66 : decode og_c_Model_qPartOf 66 = .ok (.i2l, 1) := by decide +kernel
theorem d_Model_qPartOf_67 : decode og_c_Model_qPartOf 67 = .ok (.lreturn, 1) := by decide +kernel
theorem d_Model_qPartOf_68 : decode og_c_Model_qPartOf 68 = .ok (.aload_n 0, 1) := by decide +kernel
theorem d_Model_qPartOf_69 : decode og_c_Model_qPartOf 69 = .ok (.aload_n 0, 1) := by decide +kernel
theorem d_Model_qPartOf_70 : decode og_c_Model_qPartOf 70 = .ok (.getfield 396, 3) := by decide +kernel
theorem d_Model_qPartOf_73 : decode og_c_Model_qPartOf 73 = .ok (.invokevirtual 426, 3) := by decide +kernel
theorem d_Model_qPartOf_76 : decode og_c_Model_qPartOf 76 = .ok (.i2l, 1) := by decide +kernel
theorem d_Model_qPartOf_77 : decode og_c_Model_qPartOf 77 = .ok (.lreturn, 1) := by decide +kernel
theorem d_Model_qPartOf_78 : decode og_c_Model_qPartOf 78 = .ok (.aload_n 0, 1) := by decide +kernel
theorem d_Model_qPartOf_79 : decode og_c_Model_qPartOf 79 = .ok (.getfield 124, 3) := by decide +kernel
theorem d_Model_qPartOf_82 : decode og_c_Model_qPartOf 82 = .ok (.iconst 0, 1) := by decide +kernel
theorem d_Model_qPartOf_83 : decode og_c_Model_qPartOf 83 = .ok (.iaload, 1) := by decide +kernel
theorem d_Model_qPartOf_84 : decode og_c_Model_qPartOf 84 = .ok (.i2l, 1) := by decide +kernel
theorem d_Model_qPartOf_85 : decode og_c_Model_qPartOf 85 = .ok (.lreturn, 1) := by decide +kernel
theorem d_Model_qPartOf_86 : decode og_c_Model_qPartOf 86 = .ok (.aload_n 0, 1) := by decide +kernel
theorem d_Model_qPartOf_87 : decode og_c_Model_qPartOf 87 = .ok (.invokevirtual 477, 3) := by decide +kernel
theorem d_Model_qPartOf_90 : decode og_c_Model_qPartOf 90 = .ok (.i2l, 1) := by decide +kernel
theorem d_Model_qPartOf_91 : decode og_c_Model_qPartOf 91 = .ok (.lreturn, 1) := by decide +kernel
theorem d_Model_qPartOf_92 : decode og_c_Model_qPartOf 92 = .ok (.aload_n 0, 1) := by decide +kernel
theorem d_Model_qPartOf_93 : decode og_c_Model_qPartOf 93 = .ok (.getfield 456, 3) := by decide +kernel
theorem d_Model_qPartOf_96 : decode og_c_Model_qPartOf 96 = .ok (.i2l, 1) := by decide +kernel
theorem d_Model_qPartOf_97 : decode og_c_Model_qPartOf 97 = .ok (.lreturn, 1) := by decide +kernel
theorem d_Model_qPartOf_98 : decode og_c_Model_qPartOf 98 = .ok (.iload_n 2, 1) := by decide +kernel
theorem d_Model_qPartOf_99 : decode og_c_Model_qPartOf 99 = .ok (.i2l, 1) := by decide +kernel
theorem d_Model_qPartOf_100 : decode og_c_Model_qPartOf 100 = .ok (.lreturn, 1) := by decide +kernel
theorem d_Model_qPartOf_101 : decode og_c_Model_qPartOf 101 = .ok (.aload_n 0, 1) := by decide +kernel
theorem d_Model_qPartOf_102 : decode og_c_Model_qPartOf 102 = .ok (.iload_n 2, 1) := by decide +kernel
theorem d_Model_qPartOf_103 : decode og_c_Model_qPartOf 103 = .ok (.invokevirtual 393, 3) := by decide +kernel
theorem d_Model_qPartOf_106 : decode og_c_Model_qPartOf 106 = .ok (.ifCond .eq 7, 3) := by decide +kernel
theorem d_Model_qPartOf_109 : decode og_c_Model_qPartOf 109 = .ok (.lconst 1, 1) := by decide +kernel
theorem d_Model_qPartOf_110 : decode og_c_Model_qPartOf 110 = .ok (.goto 4, 3) := by decide +kernel
theorem d_Model_qPartOf_113 : decode og_c_Model_qPartOf 113 = .ok (.lconst 0, 1) := by decide +kernel
theorem d_Model_qPartOf_114 : decode og_c_Model_qPartOf 114 = .ok (.lreturn, 1) := by decide +kernel
def m_Model_qPartOf : og_Dn := og_den [17, 0, 0] 3 1 (og_sw (og_loc 1) (fun x => og_cs x [0] (og_ret (og_i2l (og_call m_Model_ageOf [og_loc 0, og_get 51 (og_loc 0)]))) (og_cs x [1] (og_ret (og_i2l (og_ald 16 (og_fix (fun _ => 1031) (og_loc 0)) (og_add (og_k 8) (og_get 51 (og_loc 0)))))) (og_cs x [2] (og_ret (og_i2l (og_call m_Model_willOf [og_loc 0, og_get 51 (og_loc 0)]))) (og_cs x [3] (og_ret (og_i2l (og_ald 204 (og_fix (fun _ => 1037) (og_loc 0)) (og_k 0)))) (og_cs x [4] (og_ret (og_i2l (og_call m_Model_askingMany [og_loc 0]))) (og_cs x [5] (og_ret (og_i2l (og_get 52 (og_loc 0)))) (og_cs x [6] (og_ret (og_i2l (og_loc 2))) (og_ret (og_ei (og_cb (og_call m_Model_isAlive [og_loc 0, og_loc 2])) (og_k 1) (og_k 0)))))))))))
set_option maxRecDepth 20000 in
theorem ok_Model_qPartOf : og_MOK og_y_Model_qPartOf og_c_Model_qPartOf 3 1 4 [17, 0, 0] m_Model_qPartOf := og_method (b := 0) (lt' := []) (by decide +kernel) (by decide) (by decide) (og_stab (b1 := 0) (d := 101) (cs := [(0, 44), (1, 54), (2, 68), (3, 78), (4, 86), (5, 92), (6, 98)]) (og_iload_n (i := 1) (j := 1) (by rfl) (by rfl) d_Model_qPartOf_0) d_Model_qPartOf_1 (by decide) (by decide) (fun x => og_scs (fun hx => og_sat (by simp at hx; subst hx; rfl) (og_sretl (og_i2l_ (og_callVi (og_acons (og_aload_n (i := 0) (t := 15) (j := 0) (by rfl) (by rfl) d_Model_qPartOf_44) (og_acons (og_f_Model_askPerson (og_aload_n (i := 0) (t := 15) (j := 0) (by rfl) (by rfl) d_Model_qPartOf_45) og_w1194 d_Model_qPartOf_46) (og_anil))) (by decide) ok_Model_ageOf (v_Model_ageOf (by decide)) og_w1694 d_Model_qPartOf_49) d_Model_qPartOf_52) d_Model_qPartOf_53)) (fun hx => og_scs (fun hx => og_sat (by simp at hx; subst hx; rfl) (og_sretl (og_i2l_ (og_iald (N := 16) (og_f_Model_talls (og_aload_n (i := 0) (t := 15) (j := 0) (by rfl) (by rfl) d_Model_qPartOf_54) og_w1183 d_Model_qPartOf_55) (by rfl) (og_iadd (og_bipush (by decide) d_Model_qPartOf_58) (og_f_Model_askPerson (og_aload_n (i := 0) (t := 15) (j := 0) (by rfl) (by rfl) d_Model_qPartOf_60) og_w1194 d_Model_qPartOf_61) d_Model_qPartOf_64) d_Model_qPartOf_65) d_Model_qPartOf_66) d_Model_qPartOf_67)) (fun hx => og_scs (fun hx => og_sat (by simp at hx; subst hx; rfl) (og_sretl (og_i2l_ (og_callVi (og_acons (og_aload_n (i := 0) (t := 15) (j := 0) (by rfl) (by rfl) d_Model_qPartOf_68) (og_acons (og_f_Model_askPerson (og_aload_n (i := 0) (t := 15) (j := 0) (by rfl) (by rfl) d_Model_qPartOf_69) og_w1194 d_Model_qPartOf_70) (og_anil))) (by decide) ok_Model_willOf (v_Model_willOf (by decide)) og_w1698 d_Model_qPartOf_73) d_Model_qPartOf_76) d_Model_qPartOf_77)) (fun hx => og_scs (fun hx => og_sat (by simp at hx; subst hx; rfl) (og_sretl (og_i2l_ (og_iald (N := 204) (og_f_Model_now (og_aload_n (i := 0) (t := 15) (j := 0) (by rfl) (by rfl) d_Model_qPartOf_78) og_w1192 d_Model_qPartOf_79) (by rfl) (og_iconst (by decide) d_Model_qPartOf_82) d_Model_qPartOf_83) d_Model_qPartOf_84) d_Model_qPartOf_85)) (fun hx => og_scs (fun hx => og_sat (by simp at hx; subst hx; rfl) (og_sretl (og_i2l_ (og_callVi (og_acons (og_aload_n (i := 0) (t := 15) (j := 0) (by rfl) (by rfl) d_Model_qPartOf_86) (og_anil)) (by decide) ok_Model_askingMany (v_Model_askingMany (by decide)) og_w1645 d_Model_qPartOf_87) d_Model_qPartOf_90) d_Model_qPartOf_91)) (fun hx => og_scs (fun hx => og_sat (by simp at hx; subst hx; rfl) (og_sretl (og_i2l_ (og_f_Model_takenNow (og_aload_n (i := 0) (t := 15) (j := 0) (by rfl) (by rfl) d_Model_qPartOf_92) og_w1195 d_Model_qPartOf_93) d_Model_qPartOf_96) d_Model_qPartOf_97)) (fun hx => og_scs (fun hx => og_sat (by simp at hx; subst hx; rfl) (og_sretl (og_i2l_ (og_iload_n (i := 2) (j := 2) (by rfl) (by rfl) d_Model_qPartOf_98) d_Model_qPartOf_99) d_Model_qPartOf_100)) (fun hx => og_sat (og_lkn (by simp_all)) (og_sretl (og_eite (og_cbeq (tgt := 113) (og_callVz (og_acons (og_aload_n (i := 0) (t := 15) (j := 0) (by rfl) (by rfl) d_Model_qPartOf_101) (og_acons (og_iload_n (i := 2) (j := 2) (by rfl) (by rfl) d_Model_qPartOf_102) (og_anil))) (by decide) ok_Model_isAlive (v_Model_isAlive (by decide)) og_w1641 d_Model_qPartOf_103) d_Model_qPartOf_106 (by decide)) (og_lconst (x := 1) d_Model_qPartOf_109) d_Model_qPartOf_110 (by decide) (og_lconst (x := 0) d_Model_qPartOf_113)) d_Model_qPartOf_114)))))))))) (fun h => by cases h)
abbrev og_c_Model_qClip : ByteArray := prog_14_method_121_code
abbrev og_y_Model_qClip : MethodName := ⟨"OpenGravesModel", "qClip", "(J)J"⟩
theorem v_Model_qClip {dep : Nat} (h : 1 + 1 ≤ dep) : og_sS og_y_Model_qClip og_c_Model_qClip 2 1 1 dep 1 := ⟨og_w1732, og_w17, og_w1733, ⟨by decide +kernel, by decide +kernel, by decide +kernel⟩, h, by decide⟩
theorem d_Model_qClip_0 : decode og_c_Model_qClip 0 = .ok (.lload_n 0, 1) := by decide +kernel
theorem d_Model_qClip_1 : decode og_c_Model_qClip 1 = .ok (.ldc2_w 642, 3) := by decide +kernel
theorem d_Model_qClip_4 : decode og_c_Model_qClip 4 = .ok (.lcmp, 1) := by decide +kernel
theorem d_Model_qClip_5 : decode og_c_Model_qClip 5 = .ok (.ifCond .le 9, 3) := by decide +kernel
theorem d_Model_qClip_8 : decode og_c_Model_qClip 8 = .ok (.ldc2_w 642, 3) := by decide +kernel
theorem d_Model_qClip_11 : decode og_c_Model_qClip 11 = .ok (.goto 18, 3) := by decide +kernel
theorem d_Model_qClip_14 : decode og_c_Model_qClip 14 = .ok (.lload_n 0, 1) := by decide +kernel
theorem d_Model_qClip_15 : decode og_c_Model_qClip 15 = .ok (.ldc2_w 644, 3) := by decide +kernel
theorem d_Model_qClip_18 : decode og_c_Model_qClip 18 = .ok (.lcmp, 1) := by decide +kernel
theorem d_Model_qClip_19 : decode og_c_Model_qClip 19 = .ok (.ifCond .ge 9, 3) := by decide +kernel
theorem d_Model_qClip_22 : decode og_c_Model_qClip 22 = .ok (.ldc2_w 644, 3) := by decide +kernel
theorem d_Model_qClip_25 : decode og_c_Model_qClip 25 = .ok (.goto 4, 3) := by decide +kernel
theorem d_Model_qClip_28 : decode og_c_Model_qClip 28 = .ok (.lload_n 0, 1) := by decide +kernel
theorem d_Model_qClip_29 : decode og_c_Model_qClip 29 = .ok (.lreturn, 1) := by decide +kernel
def m_Model_qClip : og_Dn := og_den [1] 2 1 (og_ret (og_ei (og_cc og_rgt (og_loc 0) (og_k 1000000)) (og_k 1000000) (og_ei (og_cc og_rlt (og_loc 0) (og_k (-1000000))) (og_k (-1000000)) (og_loc 0))))
set_option maxRecDepth 20000 in
theorem ok_Model_qClip : og_MOK og_y_Model_qClip og_c_Model_qClip 2 1 1 [1] m_Model_qClip := og_method (b := 0) (lt' := []) (by decide +kernel) (by decide) (by decide) (og_sretl (og_eite (og_ccn og_n_gt (og_lle (tgt := 14) (og_lload_n (i := 0) (j := 0) (by rfl) (by rfl) d_Model_qClip_0) (og_ldc2 (x := 1000000) (by decide) og_w1734 d_Model_qClip_1) d_Model_qClip_4 d_Model_qClip_5 (by decide))) (og_ldc2 (x := 1000000) (by decide) og_w1734 d_Model_qClip_8) d_Model_qClip_11 (by decide) (og_eite (og_ccn og_n_lt (og_lge (tgt := 28) (og_lload_n (i := 0) (j := 0) (by rfl) (by rfl) d_Model_qClip_14) (og_ldc2 (x := (-1000000)) (by decide) og_w1735 d_Model_qClip_15) d_Model_qClip_18 d_Model_qClip_19 (by decide))) (og_ldc2 (x := (-1000000)) (by decide) og_w1735 d_Model_qClip_22) d_Model_qClip_25 (by decide) (og_lload_n (i := 0) (j := 0) (by rfl) (by rfl) d_Model_qClip_28))) d_Model_qClip_29) (fun h => by cases h)
abbrev og_c_Model_qFloor : ByteArray := prog_14_method_122_code
abbrev og_y_Model_qFloor : MethodName := ⟨"OpenGravesModel", "qFloor", "(JJ)J"⟩
theorem v_Model_qFloor {dep : Nat} (h : 1 + 1 ≤ dep) : og_sS og_y_Model_qFloor og_c_Model_qFloor 6 1 1 dep 2 := ⟨og_w1737, og_w17, og_w1738, ⟨by decide +kernel, by decide +kernel, by decide +kernel⟩, h, by decide⟩
theorem d_Model_qFloor_0 : decode og_c_Model_qFloor 0 = .ok (.lload_n 2, 1) := by decide +kernel
theorem d_Model_qFloor_1 : decode og_c_Model_qFloor 1 = .ok (.lconst 0, 1) := by decide +kernel
theorem d_Model_qFloor_2 : decode og_c_Model_qFloor 2 = .ok (.lcmp, 1) := by decide +kernel
theorem d_Model_qFloor_3 : decode og_c_Model_qFloor 3 = .ok (.ifCond .ne 5, 3) := by decide +kernel
theorem d_Model_qFloor_6 : decode og_c_Model_qFloor 6 = .ok (.lconst 0, 1) := by decide +kernel
theorem d_Model_qFloor_7 : decode og_c_Model_qFloor 7 = .ok (.lreturn, 1) := by decide +kernel
theorem d_Model_qFloor_8 : decode og_c_Model_qFloor 8 = .ok (.lload_n 0, 1) := by decide +kernel
theorem d_Model_qFloor_9 : decode og_c_Model_qFloor 9 = .ok (.lload_n 2, 1) := by decide +kernel
theorem d_Model_qFloor_10 : decode og_c_Model_qFloor 10 = .ok (.ldiv, 1) := by decide +kernel
theorem d_Model_qFloor_11 : decode og_c_Model_qFloor 11 = .ok (.lstore 4, 2) := by decide +kernel
theorem d_Model_qFloor_13 : decode og_c_Model_qFloor 13 = .ok (.lload_n 0, 1) := by decide +kernel
theorem d_Model_qFloor_14 : decode og_c_Model_qFloor 14 = .ok (.lload_n 2, 1) := by decide +kernel
theorem d_Model_qFloor_15 : decode og_c_Model_qFloor 15 = .ok (.lrem, 1) := by decide +kernel
theorem d_Model_qFloor_16 : decode og_c_Model_qFloor 16 = .ok (.lconst 0, 1) := by decide +kernel
theorem d_Model_qFloor_17 : decode og_c_Model_qFloor 17 = .ok (.lcmp, 1) := by decide +kernel
theorem d_Model_qFloor_18 : decode og_c_Model_qFloor 18 = .ok (.ifCond .eq 35, 3) := by decide +kernel
theorem d_Model_qFloor_21 : decode og_c_Model_qFloor 21 = .ok (.lload_n 0, 1) := by decide +kernel
theorem d_Model_qFloor_22 : decode og_c_Model_qFloor 22 = .ok (.lconst 0, 1) := by decide +kernel
theorem d_Model_qFloor_23 : decode og_c_Model_qFloor 23 = .ok (.lcmp, 1) := by decide +kernel
theorem d_Model_qFloor_24 : decode og_c_Model_qFloor 24 = .ok (.ifCond .ge 7, 3) := by decide +kernel
theorem d_Model_qFloor_27 : decode og_c_Model_qFloor 27 = .ok (.iconst 1, 1) := by decide +kernel
theorem d_Model_qFloor_28 : decode og_c_Model_qFloor 28 = .ok (.goto 4, 3) := by decide +kernel
theorem d_Model_qFloor_31 : decode og_c_Model_qFloor 31 = .ok (.iconst 0, 1) := by decide +kernel
theorem d_Model_qFloor_32 : decode og_c_Model_qFloor 32 = .ok (.lload_n 2, 1) := by decide +kernel
theorem d_Model_qFloor_33 : decode og_c_Model_qFloor 33 = .ok (.lconst 0, 1) := by decide +kernel
theorem d_Model_qFloor_34 : decode og_c_Model_qFloor 34 = .ok (.lcmp, 1) := by decide +kernel
theorem d_Model_qFloor_35 : decode og_c_Model_qFloor 35 = .ok (.ifCond .ge 7, 3) := by decide +kernel
theorem d_Model_qFloor_38 : decode og_c_Model_qFloor 38 = .ok (.iconst 1, 1) := by decide +kernel
theorem d_Model_qFloor_39 : decode og_c_Model_qFloor 39 = .ok (.goto 4, 3) := by decide +kernel
theorem d_Model_qFloor_42 : decode og_c_Model_qFloor 42 = .ok (.iconst 0, 1) := by decide +kernel
theorem d_Model_qFloor_43 : decode og_c_Model_qFloor 43 = .ok (.if_icmp .eq 10, 3) := by decide +kernel
theorem d_Model_qFloor_46 : decode og_c_Model_qFloor 46 = .ok (.lload 4, 2) := by decide +kernel
theorem d_Model_qFloor_48 : decode og_c_Model_qFloor 48 = .ok (.lconst 1, 1) := by decide +kernel
theorem d_Model_qFloor_49 : decode og_c_Model_qFloor 49 = .ok (.lsub, 1) := by decide +kernel
theorem d_Model_qFloor_50 : decode og_c_Model_qFloor 50 = .ok (.goto 5, 3) := by decide +kernel
theorem d_Model_qFloor_53 : decode og_c_Model_qFloor 53 = .ok (.lload 4, 2) := by decide +kernel
theorem d_Model_qFloor_55 : decode og_c_Model_qFloor 55 = .ok (.lreturn, 1) := by decide +kernel
def m_Model_qFloor : og_Dn := og_den [1, 1] 6 1 (og_seq (og_if (og_cc og_req (og_loc 2) (og_k 0)) (og_ret (og_k 0)) (og_skip)) (og_seq (og_set 4 (og_ldiv (og_loc 0) (og_loc 2))) (og_ret (og_ei (og_and (og_cc og_rne (og_lrem (og_loc 0) (og_loc 2)) (og_k 0)) (og_cc og_rne (og_ec (og_cc og_rlt (og_loc 0) (og_k 0))) (og_ec (og_cc og_rlt (og_loc 2) (og_k 0))))) (og_lsub (og_loc 4) (og_k 1)) (og_loc 4)))))
set_option maxRecDepth 20000 in
theorem ok_Model_qFloor : og_MOK og_y_Model_qFloor og_c_Model_qFloor 6 1 1 [1, 1] m_Model_qFloor := og_method (b := 0) (lt' := []) (by decide +kernel) (by decide) (by decide) (og_sseq (og_sif (T := 6) (F := 8) (og_ccn og_n_eq (og_lne (tgt := 8) (og_lload_n (i := 2) (j := 1) (by rfl) (by rfl) d_Model_qFloor_0) (og_lconst (x := 0) d_Model_qFloor_1) d_Model_qFloor_2 d_Model_qFloor_3 (by decide))) (og_sretl (og_lconst (x := 0) d_Model_qFloor_6) d_Model_qFloor_7) (og_sskip)) (og_sseq (og_lstore (i := 4) (lt' := [(0, 1), (2, 1), (4, 1)]) (og_ldiv_ (og_lload_n (i := 0) (j := 0) (by rfl) (by rfl) d_Model_qFloor_8) (og_lload_n (i := 2) (j := 1) (by rfl) (by rfl) d_Model_qFloor_9) d_Model_qFloor_10) (by decide) (by decide) d_Model_qFloor_11) (og_sretl (og_eite (og_cand (og_ccn og_n_ne (og_leq (tgt := 53) (og_lrem_ (og_lload_n (i := 0) (j := 0) (by rfl) (by rfl) d_Model_qFloor_13) (og_lload_n (i := 2) (j := 1) (by rfl) (by rfl) d_Model_qFloor_14) d_Model_qFloor_15) (og_lconst (x := 0) d_Model_qFloor_16) d_Model_qFloor_17 d_Model_qFloor_18 (by decide))) (og_ccn og_n_ne (og_ieq (tgt := 53) (og_econd (b := 0) (og_ccn og_n_lt (og_lge (tgt := 31) (og_lload_n (i := 0) (j := 0) (by rfl) (by rfl) d_Model_qFloor_21) (og_lconst (x := 0) d_Model_qFloor_22) d_Model_qFloor_23 d_Model_qFloor_24 (by decide))) d_Model_qFloor_27 d_Model_qFloor_28 (by decide) d_Model_qFloor_31 (by rfl)) (og_econd (b := 0) (og_ccn og_n_lt (og_lge (tgt := 42) (og_lload_n (i := 2) (j := 1) (by rfl) (by rfl) d_Model_qFloor_32) (og_lconst (x := 0) d_Model_qFloor_33) d_Model_qFloor_34 d_Model_qFloor_35 (by decide))) d_Model_qFloor_38 d_Model_qFloor_39 (by decide) d_Model_qFloor_42 (by rfl)) d_Model_qFloor_43 (by decide)))) (og_lsub_ (og_lload (i := 4) (j := 2) (by rfl) d_Model_qFloor_46) (og_lconst (x := 1) d_Model_qFloor_48) d_Model_qFloor_49) d_Model_qFloor_50 (by decide) (og_lload (i := 4) (j := 2) (by rfl) d_Model_qFloor_53)) d_Model_qFloor_55))) (fun h => by cases h)
abbrev og_c_Model_qJoins : ByteArray := prog_14_method_124_code
abbrev og_y_Model_qJoins : MethodName := ⟨"OpenGravesModel", "qJoins", "(I)V"⟩
theorem v_Model_qJoins {own : String} {idx dep : Nat} (h : 2 + 1 ≤ dep) : og_sV own idx og_y_Model_qJoins og_c_Model_qJoins 6 2 2 dep 13 1 := ⟨⟨12, og_sl_Model, og_T_Model, 102, rfl, by decide, rfl⟩, og_w1729, (og_memP (⟨"OpenGravesModel", "qJoins", "(I)V"⟩, 102) (List.mem_of_getElem? (i := 106) (by decide +kernel))), og_w17, og_w1730, ⟨by decide +kernel, by decide +kernel, by decide +kernel⟩, h, by decide⟩
theorem d_Model_qJoins_0 : decode og_c_Model_qJoins 0 = .ok (.aload_n 0, 1) := by decide +kernel
theorem d_Model_qJoins_1 : decode og_c_Model_qJoins 1 = .ok (.getfield 233, 3) := by decide +kernel
theorem d_Model_qJoins_4 : decode og_c_Model_qJoins 4 = .ok (.aload_n 0, 1) := by decide +kernel
theorem d_Model_qJoins_5 : decode og_c_Model_qJoins 5 = .ok (.getfield 399, 3) := by decide +kernel
theorem d_Model_qJoins_8 : decode og_c_Model_qJoins 8 = .ok (.iconst 1, 1) := by decide +kernel
theorem d_Model_qJoins_9 : decode og_c_Model_qJoins 9 = .ok (.isub, 1) := by decide +kernel
theorem d_Model_qJoins_10 : decode og_c_Model_qJoins 10 = .ok (.laload, 1) := by decide +kernel
theorem d_Model_qJoins_11 : decode og_c_Model_qJoins 11 = .ok (.lstore_n 2, 1) := by decide +kernel
theorem d_Model_qJoins_12 : decode og_c_Model_qJoins 12 = .ok (.aload_n 0, 1) := by decide +kernel
theorem d_Model_qJoins_13 : decode og_c_Model_qJoins 13 = .ok (.getfield 233, 3) := by decide +kernel
theorem d_Model_qJoins_16 : decode og_c_Model_qJoins 16 = .ok (.aload_n 0, 1) := by decide +kernel
theorem d_Model_qJoins_17 : decode og_c_Model_qJoins 17 = .ok (.getfield 399, 3) := by decide +kernel
theorem d_Model_qJoins_20 : decode og_c_Model_qJoins 20 = .ok (.iconst 2, 1) := by decide +kernel
theorem d_Model_qJoins_21 : decode og_c_Model_qJoins 21 = .ok (.isub, 1) := by decide +kernel
theorem d_Model_qJoins_22 : decode og_c_Model_qJoins 22 = .ok (.laload, 1) := by decide +kernel
theorem d_Model_qJoins_23 : decode og_c_Model_qJoins 23 = .ok (.lstore 4, 2) := by decide +kernel
theorem d_Model_qJoins_25 : decode og_c_Model_qJoins 25 = .ok (.aload_n 0, 1) := by decide +kernel
theorem d_Model_qJoins_26 : decode og_c_Model_qJoins 26 = .ok (.dup, 1) := by decide +kernel
theorem d_Model_qJoins_27 : decode og_c_Model_qJoins 27 = .ok (.getfield 399, 3) := by decide +kernel
theorem d_Model_qJoins_30 : decode og_c_Model_qJoins 30 = .ok (.iconst 2, 1) := by decide +kernel
theorem d_Model_qJoins_31 : decode og_c_Model_qJoins 31 = .ok (.isub, 1) := by decide +kernel
theorem d_Model_qJoins_32 : decode og_c_Model_qJoins 32 = .ok (.putfield 399, 3) := by decide +kernel
theorem d_Model_qJoins_35 : decode og_c_Model_qJoins 35 = .ok (.iload_n 1, 1) := by decide +kernel
theorem d_Model_qJoins_36 : decode og_c_Model_qJoins 36 = .ok (.tableswitch 219 1 10 #[56, 70, 84, 98, 111, 131, 151, 170, 189, 208], 56) := by decide +kernel
theorem d_Model_qJoins_92 : decode og_c_Model_qJoins 92 = .ok (.aload_n 0, 1) := by decide +kernel
theorem d_Model_qJoins_93 : decode og_c_Model_qJoins 93 = .ok (.lload 4, 2) := by decide +kernel
theorem d_Model_qJoins_95 : decode og_c_Model_qJoins 95 = .ok (.lload_n 2, 1) := by decide +kernel
theorem d_Model_qJoins_96 : decode og_c_Model_qJoins 96 = .ok (.ladd, 1) := by decide +kernel
theorem d_Model_qJoins_97 : decode og_c_Model_qJoins 97 = .ok (.invokestatic 646, 3) := by decide +kernel
theorem d_Model_qJoins_100 : decode og_c_Model_qJoins 100 = .ok (.invokevirtual 402, 3) := by decide +kernel
theorem d_Model_qJoins_103 : decode og_c_Model_qJoins 103 = .ok (.goto 170, 3) := by decide +kernel
theorem d_Model_qJoins_106 : decode og_c_Model_qJoins 106 = .ok (.aload_n 0, 1) := by decide +kernel
theorem d_Model_qJoins_107 : decode og_c_Model_qJoins 107 = .ok (.lload 4, 2) := by decide +kernel
theorem d_Model_qJoins_109 : decode og_c_Model_qJoins 109 = .ok (.lload_n 2, 1) := by decide +kernel
theorem d_Model_qJoins_110 : decode og_c_Model_qJoins 110 = .ok (.lsub, 1) := by decide +kernel
theorem d_Model_qJoins_111 : decode og_c_Model_qJoins 111 = .ok (.invokestatic 646, 3) := by decide +kernel
theorem d_Model_qJoins_114 : decode og_c_Model_qJoins 114 = .ok (.invokevirtual 402, 3) := by decide +kernel
theorem d_Model_qJoins_117 : decode og_c_Model_qJoins 117 = .ok (.goto 156, 3) := by decide +kernel
theorem d_Model_qJoins_120 : decode og_c_Model_qJoins 120 = .ok (.aload_n 0, 1) := by decide +kernel
theorem d_Model_qJoins_121 : decode og_c_Model_qJoins 121 = .ok (.lload 4, 2) := by decide +kernel
theorem d_Model_qJoins_123 : decode og_c_Model_qJoins 123 = .ok (.lload_n 2, 1) := by decide +kernel
theorem d_Model_qJoins_124 : decode og_c_Model_qJoins 124 = .ok (.lmul, 1) := by decide +kernel
theorem d_Model_qJoins_125 : decode og_c_Model_qJoins 125 = .ok (.invokestatic 646, 3) := by decide +kernel
theorem d_Model_qJoins_128 : decode og_c_Model_qJoins 128 = .ok (.invokevirtual 402, 3) := by decide +kernel
theorem d_Model_qJoins_131 : decode og_c_Model_qJoins 131 = .ok (.goto 142, 3) := by decide +kernel
theorem d_Model_qJoins_134 : decode og_c_Model_qJoins 134 = .ok (.aload_n 0, 1) := by decide +kernel
theorem d_Model_qJoins_135 : decode og_c_Model_qJoins 135 = .ok (.lload 4, 2) := by decide +kernel
theorem d_Model_qJoins_137 : decode og_c_Model_qJoins 137 = .ok (.lload_n 2, 1) := by decide +kernel
theorem d_Model_qJoins_138 : decode og_c_Model_qJoins 138 = .ok (.invokestatic 650, 3) := by decide +kernel
theorem d_Model_qJoins_141 : decode og_c_Model_qJoins 141 = .ok (.invokevirtual 402, 3) := by decide +kernel
theorem d_Model_qJoins_144 : decode og_c_Model_qJoins 144 = .ok (.goto 129, 3) := by decide +kernel
theorem d_Model_qJoins_147 : decode og_c_Model_qJoins 147 = .ok (.aload_n 0, 1) := by decide +kernel
theorem d_Model_qJoins_148 : decode og_c_Model_qJoins 148 = .ok (.lload 4, 2) := by decide +kernel
theorem d_Model_qJoins_150 : decode og_c_Model_qJoins 150 = .ok (.lload_n 2, 1) := by decide +kernel
theorem d_Model_qJoins_151 : decode og_c_Model_qJoins 151 = .ok (.lcmp, 1) := by decide +kernel
theorem d_Model_qJoins_152 : decode og_c_Model_qJoins 152 = .ok (.ifCond .ge 8, 3) := by decide +kernel
theorem d_Model_qJoins_155 : decode og_c_Model_qJoins 155 = .ok (.lload 4, 2) := by decide +kernel
theorem d_Model_qJoins_157 : decode og_c_Model_qJoins 157 = .ok (.goto 4, 3) := by decide +kernel
theorem d_Model_qJoins_160 : decode og_c_Model_qJoins 160 = .ok (.lload_n 2, 1) := by decide +kernel
theorem d_Model_qJoins_161 : decode og_c_Model_qJoins 161 = .ok (.invokevirtual 402, 3) := by decide +kernel
theorem d_Model_qJoins_164 : decode og_c_Model_qJoins 164 = .ok (.goto 109, 3) := by decide +kernel
theorem d_Model_qJoins_167 : decode og_c_Model_qJoins 167 = .ok (.aload_n 0, 1) := by decide +kernel
theorem d_Model_qJoins_168 : decode og_c_Model_qJoins 168 = .ok (.lload 4, 2) := by decide +kernel
theorem d_Model_qJoins_170 : decode og_c_Model_qJoins 170 = .ok (.lload_n 2, 1) := by decide +kernel
theorem d_Model_qJoins_171 : decode og_c_Model_qJoins 171 = .ok (.lcmp, 1) := by decide +kernel
theorem d_Model_qJoins_172 : decode og_c_Model_qJoins 172 = .ok (.ifCond .le 8, 3) := by decide +kernel
theorem d_Model_qJoins_175 : decode og_c_Model_qJoins 175 = .ok (.lload 4, 2) := by decide +kernel
theorem d_Model_qJoins_177 : decode og_c_Model_qJoins 177 = .ok (.goto 4, 3) := by decide +kernel
theorem d_Model_qJoins_180 : decode og_c_Model_qJoins 180 = .ok (.lload_n 2, 1) := by decide +kernel
theorem d_Model_qJoins_181 : decode og_c_Model_qJoins 181 = .ok (.invokevirtual 402, 3) := by decide +kernel
theorem d_Model_qJoins_184 : decode og_c_Model_qJoins 184 = .ok (.goto 89, 3) := by decide +kernel
theorem d_Model_qJoins_187 : decode og_c_Model_qJoins 187 = .ok (.aload_n 0, 1) := by decide +kernel
theorem d_Model_qJoins_188 : decode og_c_Model_qJoins 188 = .ok (.lload 4, 2) := by decide +kernel
theorem d_Model_qJoins_190 : decode og_c_Model_qJoins 190 = .ok (.lload_n 2, 1) := by decide +kernel
theorem d_Model_qJoins_191 : decode og_c_Model_qJoins 191 = .ok (.lcmp, 1) := by decide +kernel
theorem d_Model_qJoins_192 : decode og_c_Model_qJoins 192 = .ok (.ifCond .ge 7, 3) := by decide +kernel
theorem d_Model_qJoins_195 : decode og_c_Model_qJoins 195 = .ok (.lconst 1, 1) := by decide +kernel
theorem d_Model_qJoins_196 : decode og_c_Model_qJoins 196 = .ok (.goto 4, 3) := by decide +kernel
theorem d_Model_qJoins_199 : decode og_c_Model_qJoins 199 = .ok (.lconst 0, 1) := by decide +kernel
theorem d_Model_qJoins_200 : decode og_c_Model_qJoins 200 = .ok (.invokevirtual 402, 3) := by decide +kernel
theorem d_Model_qJoins_203 : decode og_c_Model_qJoins 203 = .ok (.goto 70, 3) := by decide +kernel
theorem d_Model_qJoins_206 : decode og_c_Model_qJoins 206 = .ok (.aload_n 0, 1) := by decide +kernel
theorem d_Model_qJoins_207 : decode og_c_Model_qJoins 207 = .ok (.lload 4, 2) := by decide +kernel
theorem d_Model_qJoins_209 : decode og_c_Model_qJoins 209 = .ok (.lload_n 2, 1) := by decide +kernel
theorem d_Model_qJoins_210 : decode og_c_Model_qJoins 210 = .ok (.lcmp, 1) := by decide +kernel
theorem d_Model_qJoins_211 : decode og_c_Model_qJoins 211 = .ok (.ifCond .le 7, 3) := by decide +kernel
theorem d_Model_qJoins_214 : decode og_c_Model_qJoins 214 = .ok (.lconst 1, 1) := by decide +kernel
theorem d_Model_qJoins_215 : decode og_c_Model_qJoins 215 = .ok (.goto 4, 3) := by decide +kernel
theorem d_Model_qJoins_218 : decode og_c_Model_qJoins 218 = .ok (.lconst 0, 1) := by decide +kernel
theorem d_Model_qJoins_219 : decode og_c_Model_qJoins 219 = .ok (.invokevirtual 402, 3) := by decide +kernel
theorem d_Model_qJoins_222 : decode og_c_Model_qJoins 222 = .ok (.goto 51, 3) := by decide +kernel
theorem d_Model_qJoins_225 : decode og_c_Model_qJoins 225 = .ok (.aload_n 0, 1) := by decide +kernel
theorem d_Model_qJoins_226 : decode og_c_Model_qJoins 226 = .ok (.lload 4, 2) := by decide +kernel
theorem d_Model_qJoins_228 : decode og_c_Model_qJoins 228 = .ok (.lload_n 2, 1) := by decide +kernel
theorem d_Model_qJoins_229 : decode og_c_Model_qJoins 229 = .ok (.lcmp, 1) := by decide +kernel
theorem d_Model_qJoins_230 : decode og_c_Model_qJoins 230 = .ok (.ifCond .ne 7, 3) := by decide +kernel
theorem d_Model_qJoins_233 : decode og_c_Model_qJoins 233 = .ok (.lconst 1, 1) := by decide +kernel
theorem d_Model_qJoins_234 : decode og_c_Model_qJoins 234 = .ok (.goto 4, 3) := by decide +kernel
theorem d_Model_qJoins_237 : decode og_c_Model_qJoins 237 = .ok (.lconst 0, 1) := by decide +kernel
theorem d_Model_qJoins_238 : decode og_c_Model_qJoins 238 = .ok (.invokevirtual 402, 3) := by decide +kernel
theorem d_Model_qJoins_241 : decode og_c_Model_qJoins 241 = .ok (.goto 32, 3) := by decide +kernel
theorem d_Model_qJoins_244 : decode og_c_Model_qJoins 244 = .ok (.aload_n 0, 1) := by decide +kernel
theorem d_Model_qJoins_245 : decode og_c_Model_qJoins 245 = .ok (.lload 4, 2) := by decide +kernel
theorem d_Model_qJoins_247 : decode og_c_Model_qJoins 247 = .ok (.lload_n 2, 1) := by decide +kernel
theorem d_Model_qJoins_248 : decode og_c_Model_qJoins 248 = .ok (.lmul, 1) := by decide +kernel
theorem d_Model_qJoins_249 : decode og_c_Model_qJoins 249 = .ok (.invokevirtual 402, 3) := by decide +kernel
theorem d_Model_qJoins_252 : decode og_c_Model_qJoins 252 = .ok (.goto 21, 3) := by decide +kernel
theorem d_Model_qJoins_255 : decode og_c_Model_qJoins 255 = .ok (.aload_n 0, 1) := by decide +kernel
theorem d_Model_qJoins_256 : decode og_c_Model_qJoins 256 = .ok (.lload 4, 2) := by decide +kernel
theorem d_Model_qJoins_258 : decode og_c_Model_qJoins 258 = .ok (.lload_n 2, 1) := by decide +kernel
theorem d_Model_qJoins_259 : decode og_c_Model_qJoins 259 = .ok (.ladd, 1) := by decide +kernel
theorem d_Model_qJoins_260 : decode og_c_Model_qJoins 260 = .ok (.lconst 0, 1) := by decide +kernel
theorem d_Model_qJoins_261 : decode og_c_Model_qJoins 261 = .ok (.lcmp, 1) := by decide +kernel
theorem d_Model_qJoins_262 : decode og_c_Model_qJoins 262 = .ok (.ifCond .le 7, 3) := by decide +kernel
theorem d_Model_qJoins_265 : decode og_c_Model_qJoins 265 = .ok (.lconst 1, 1) := by decide +kernel
theorem d_Model_qJoins_266 : decode og_c_Model_qJoins 266 = .ok (.goto 4, 3) := by decide +kernel
theorem d_Model_qJoins_269 : decode og_c_Model_qJoins 269 = .ok (.lconst 0, 1) := by decide +kernel
theorem d_Model_qJoins_270 : decode og_c_Model_qJoins 270 = .ok (.invokevirtual 402, 3) := by decide +kernel
theorem d_Model_qJoins_273 : decode og_c_Model_qJoins 273 = .ok (.return_, 1) := by decide +kernel
def m_Model_qJoins : og_Dn := og_den [17, 0] 6 2 (og_seq (og_set 2 (og_ald 1700 (og_fix (fun _ => 1072) (og_loc 0)) (og_sub (og_get 97 (og_loc 0)) (og_k 1)))) (og_seq (og_set 4 (og_ald 1700 (og_fix (fun _ => 1072) (og_loc 0)) (og_sub (og_get 97 (og_loc 0)) (og_k 2)))) (og_seq (og_pop32 og_psub 97 (og_loc 0) (og_k 2)) (og_sw (og_loc 1) (fun x => og_cs x [1] (og_seq (og_exp (og_call m_Model_qPuts [og_loc 0, og_call m_Model_qClip [og_ladd (og_loc 4) (og_loc 2)]])) (og_brk)) (og_cs x [2] (og_seq (og_exp (og_call m_Model_qPuts [og_loc 0, og_call m_Model_qClip [og_lsub (og_loc 4) (og_loc 2)]])) (og_brk)) (og_cs x [3] (og_seq (og_exp (og_call m_Model_qPuts [og_loc 0, og_call m_Model_qClip [og_lmul (og_loc 4) (og_loc 2)]])) (og_brk)) (og_cs x [4] (og_seq (og_exp (og_call m_Model_qPuts [og_loc 0, og_call m_Model_qFloor [og_loc 4, og_loc 2]])) (og_brk)) (og_cs x [5] (og_seq (og_exp (og_call m_Model_qPuts [og_loc 0, og_ei (og_cc og_rlt (og_loc 4) (og_loc 2)) (og_loc 4) (og_loc 2)])) (og_brk)) (og_cs x [6] (og_seq (og_exp (og_call m_Model_qPuts [og_loc 0, og_ei (og_cc og_rgt (og_loc 4) (og_loc 2)) (og_loc 4) (og_loc 2)])) (og_brk)) (og_cs x [7] (og_seq (og_exp (og_call m_Model_qPuts [og_loc 0, og_ei (og_cc og_rlt (og_loc 4) (og_loc 2)) (og_k 1) (og_k 0)])) (og_brk)) (og_cs x [8] (og_seq (og_exp (og_call m_Model_qPuts [og_loc 0, og_ei (og_cc og_rgt (og_loc 4) (og_loc 2)) (og_k 1) (og_k 0)])) (og_brk)) (og_cs x [9] (og_seq (og_exp (og_call m_Model_qPuts [og_loc 0, og_ei (og_cc og_req (og_loc 4) (og_loc 2)) (og_k 1) (og_k 0)])) (og_brk)) (og_cs x [10] (og_seq (og_exp (og_call m_Model_qPuts [og_loc 0, og_lmul (og_loc 4) (og_loc 2)])) (og_brk)) (og_seq (og_exp (og_call m_Model_qPuts [og_loc 0, og_ei (og_cc og_rgt (og_ladd (og_loc 4) (og_loc 2)) (og_k 0)) (og_k 1) (og_k 0)])) (og_brk))))))))))))))))
set_option maxRecDepth 20000 in
theorem ok_Model_qJoins : og_MOK og_y_Model_qJoins og_c_Model_qJoins 6 2 2 [17, 0] m_Model_qJoins := og_method (b := 273) (lt' := [(0, 17), (1, 0)]) (by decide +kernel) (by decide) (by decide) (og_sdrop (lt' := [(0, 17), (1, 0), (2, 1), (4, 1)]) (lt2 := [(0, 17), (1, 0)]) (og_sseq (og_lstore_n (i := 2) (lt' := [(0, 17), (1, 0), (2, 1)]) (og_lald (N := 1700) (og_f_Model_qPile (og_aload_n (i := 0) (t := 15) (j := 0) (by rfl) (by rfl) d_Model_qJoins_0) og_w1239 d_Model_qJoins_1) (by rfl) (og_isub (og_f_Model_qPiled (og_aload_n (i := 0) (t := 15) (j := 0) (by rfl) (by rfl) d_Model_qJoins_4) og_w1240 d_Model_qJoins_5) (og_iconst (by decide) d_Model_qJoins_8) d_Model_qJoins_9) d_Model_qJoins_10) (by rfl) (by decide) (by decide) d_Model_qJoins_11) (og_sseq (og_lstore (i := 4) (lt' := [(0, 17), (1, 0), (2, 1), (4, 1)]) (og_lald (N := 1700) (og_f_Model_qPile (og_aload_n (i := 0) (t := 15) (j := 0) (by rfl) (by rfl) d_Model_qJoins_12) og_w1239 d_Model_qJoins_13) (by rfl) (og_isub (og_f_Model_qPiled (og_aload_n (i := 0) (t := 15) (j := 0) (by rfl) (by rfl) d_Model_qJoins_16) og_w1240 d_Model_qJoins_17) (og_iconst (by decide) d_Model_qJoins_20) d_Model_qJoins_21) d_Model_qJoins_22) (by decide) (by decide) d_Model_qJoins_23) (og_sseq (og_qsub_Model_qPiled (og_aload_n (i := 0) (t := 15) (j := 0) (by rfl) (by rfl) d_Model_qJoins_25) d_Model_qJoins_26 d_Model_qJoins_27 (og_iconst (by decide) d_Model_qJoins_30) d_Model_qJoins_31 og_w1240 d_Model_qJoins_32) (og_stab (b1 := 273) (d := 255) (cs := [(1, 92), (2, 106), (3, 120), (4, 134), (5, 147), (6, 167), (7, 187), (8, 206), (9, 225), (10, 244)]) (og_iload_n (i := 1) (j := 1) (by rfl) (by rfl) d_Model_qJoins_35) d_Model_qJoins_36 (by decide) (by decide) (fun x => og_scs (fun hx => og_sat (by simp at hx; subst hx; rfl) (og_sseq (og_gS (b' := 273) (og_callVv (og_acons (og_aload_n (i := 0) (t := 15) (j := 0) (by rfl) (by rfl) d_Model_qJoins_92) (og_acons (og_callSl (og_acons (og_ladd_ (og_lload (i := 4) (j := 3) (by rfl) d_Model_qJoins_93) (og_lload_n (i := 2) (j := 2) (by rfl) (by rfl) d_Model_qJoins_95) d_Model_qJoins_96) (og_anil)) (by decide) ok_Model_qClip (v_Model_qClip (by decide)) og_w1731 d_Model_qJoins_97) (og_anil))) ok_Model_qPuts (v_Model_qPuts (by decide)) og_w1719 d_Model_qJoins_100) d_Model_qJoins_103 (by decide)) (og_sbrk (by decide)))) (fun hx => og_scs (fun hx => og_sat (by simp at hx; subst hx; rfl) (og_sseq (og_gS (b' := 273) (og_callVv (og_acons (og_aload_n (i := 0) (t := 15) (j := 0) (by rfl) (by rfl) d_Model_qJoins_106) (og_acons (og_callSl (og_acons (og_lsub_ (og_lload (i := 4) (j := 3) (by rfl) d_Model_qJoins_107) (og_lload_n (i := 2) (j := 2) (by rfl) (by rfl) d_Model_qJoins_109) d_Model_qJoins_110) (og_anil)) (by decide) ok_Model_qClip (v_Model_qClip (by decide)) og_w1731 d_Model_qJoins_111) (og_anil))) ok_Model_qPuts (v_Model_qPuts (by decide)) og_w1719 d_Model_qJoins_114) d_Model_qJoins_117 (by decide)) (og_sbrk (by decide)))) (fun hx => og_scs (fun hx => og_sat (by simp at hx; subst hx; rfl) (og_sseq (og_gS (b' := 273) (og_callVv (og_acons (og_aload_n (i := 0) (t := 15) (j := 0) (by rfl) (by rfl) d_Model_qJoins_120) (og_acons (og_callSl (og_acons (og_lmul_ (og_lload (i := 4) (j := 3) (by rfl) d_Model_qJoins_121) (og_lload_n (i := 2) (j := 2) (by rfl) (by rfl) d_Model_qJoins_123) d_Model_qJoins_124) (og_anil)) (by decide) ok_Model_qClip (v_Model_qClip (by decide)) og_w1731 d_Model_qJoins_125) (og_anil))) ok_Model_qPuts (v_Model_qPuts (by decide)) og_w1719 d_Model_qJoins_128) d_Model_qJoins_131 (by decide)) (og_sbrk (by decide)))) (fun hx => og_scs (fun hx => og_sat (by simp at hx; subst hx; rfl) (og_sseq (og_gS (b' := 273) (og_callVv (og_acons (og_aload_n (i := 0) (t := 15) (j := 0) (by rfl) (by rfl) d_Model_qJoins_134) (og_acons (og_callSl (og_acons (og_lload (i := 4) (j := 3) (by rfl) d_Model_qJoins_135) (og_acons (og_lload_n (i := 2) (j := 2) (by rfl) (by rfl) d_Model_qJoins_137) (og_anil))) (by decide) ok_Model_qFloor (v_Model_qFloor (by decide)) og_w1736 d_Model_qJoins_138) (og_anil))) ok_Model_qPuts (v_Model_qPuts (by decide)) og_w1719 d_Model_qJoins_141) d_Model_qJoins_144 (by decide)) (og_sbrk (by decide)))) (fun hx => og_scs (fun hx => og_sat (by simp at hx; subst hx; rfl) (og_sseq (og_gS (b' := 273) (og_callVv (og_acons (og_aload_n (i := 0) (t := 15) (j := 0) (by rfl) (by rfl) d_Model_qJoins_147) (og_acons (og_eite (og_ccn og_n_lt (og_lge (tgt := 160) (og_lload (i := 4) (j := 3) (by rfl) d_Model_qJoins_148) (og_lload_n (i := 2) (j := 2) (by rfl) (by rfl) d_Model_qJoins_150) d_Model_qJoins_151 d_Model_qJoins_152 (by decide))) (og_lload (i := 4) (j := 3) (by rfl) d_Model_qJoins_155) d_Model_qJoins_157 (by decide) (og_lload_n (i := 2) (j := 2) (by rfl) (by rfl) d_Model_qJoins_160)) (og_anil))) ok_Model_qPuts (v_Model_qPuts (by decide)) og_w1719 d_Model_qJoins_161) d_Model_qJoins_164 (by decide)) (og_sbrk (by decide)))) (fun hx => og_scs (fun hx => og_sat (by simp at hx; subst hx; rfl) (og_sseq (og_gS (b' := 273) (og_callVv (og_acons (og_aload_n (i := 0) (t := 15) (j := 0) (by rfl) (by rfl) d_Model_qJoins_167) (og_acons (og_eite (og_ccn og_n_gt (og_lle (tgt := 180) (og_lload (i := 4) (j := 3) (by rfl) d_Model_qJoins_168) (og_lload_n (i := 2) (j := 2) (by rfl) (by rfl) d_Model_qJoins_170) d_Model_qJoins_171 d_Model_qJoins_172 (by decide))) (og_lload (i := 4) (j := 3) (by rfl) d_Model_qJoins_175) d_Model_qJoins_177 (by decide) (og_lload_n (i := 2) (j := 2) (by rfl) (by rfl) d_Model_qJoins_180)) (og_anil))) ok_Model_qPuts (v_Model_qPuts (by decide)) og_w1719 d_Model_qJoins_181) d_Model_qJoins_184 (by decide)) (og_sbrk (by decide)))) (fun hx => og_scs (fun hx => og_sat (by simp at hx; subst hx; rfl) (og_sseq (og_gS (b' := 273) (og_callVv (og_acons (og_aload_n (i := 0) (t := 15) (j := 0) (by rfl) (by rfl) d_Model_qJoins_187) (og_acons (og_eite (og_ccn og_n_lt (og_lge (tgt := 199) (og_lload (i := 4) (j := 3) (by rfl) d_Model_qJoins_188) (og_lload_n (i := 2) (j := 2) (by rfl) (by rfl) d_Model_qJoins_190) d_Model_qJoins_191 d_Model_qJoins_192 (by decide))) (og_lconst (x := 1) d_Model_qJoins_195) d_Model_qJoins_196 (by decide) (og_lconst (x := 0) d_Model_qJoins_199)) (og_anil))) ok_Model_qPuts (v_Model_qPuts (by decide)) og_w1719 d_Model_qJoins_200) d_Model_qJoins_203 (by decide)) (og_sbrk (by decide)))) (fun hx => og_scs (fun hx => og_sat (by simp at hx; subst hx; rfl) (og_sseq (og_gS (b' := 273) (og_callVv (og_acons (og_aload_n (i := 0) (t := 15) (j := 0) (by rfl) (by rfl) d_Model_qJoins_206) (og_acons (og_eite (og_ccn og_n_gt (og_lle (tgt := 218) (og_lload (i := 4) (j := 3) (by rfl) d_Model_qJoins_207) (og_lload_n (i := 2) (j := 2) (by rfl) (by rfl) d_Model_qJoins_209) d_Model_qJoins_210 d_Model_qJoins_211 (by decide))) (og_lconst (x := 1) d_Model_qJoins_214) d_Model_qJoins_215 (by decide) (og_lconst (x := 0) d_Model_qJoins_218)) (og_anil))) ok_Model_qPuts (v_Model_qPuts (by decide)) og_w1719 d_Model_qJoins_219) d_Model_qJoins_222 (by decide)) (og_sbrk (by decide)))) (fun hx => og_scs (fun hx => og_sat (by simp at hx; subst hx; rfl) (og_sseq (og_gS (b' := 273) (og_callVv (og_acons (og_aload_n (i := 0) (t := 15) (j := 0) (by rfl) (by rfl) d_Model_qJoins_225) (og_acons (og_eite (og_ccn og_n_eq (og_lne (tgt := 237) (og_lload (i := 4) (j := 3) (by rfl) d_Model_qJoins_226) (og_lload_n (i := 2) (j := 2) (by rfl) (by rfl) d_Model_qJoins_228) d_Model_qJoins_229 d_Model_qJoins_230 (by decide))) (og_lconst (x := 1) d_Model_qJoins_233) d_Model_qJoins_234 (by decide) (og_lconst (x := 0) d_Model_qJoins_237)) (og_anil))) ok_Model_qPuts (v_Model_qPuts (by decide)) og_w1719 d_Model_qJoins_238) d_Model_qJoins_241 (by decide)) (og_sbrk (by decide)))) (fun hx => og_scs (fun hx => og_sat (by simp at hx; subst hx; rfl) (og_sseq (og_gS (b' := 273) (og_callVv (og_acons (og_aload_n (i := 0) (t := 15) (j := 0) (by rfl) (by rfl) d_Model_qJoins_244) (og_acons (og_lmul_ (og_lload (i := 4) (j := 3) (by rfl) d_Model_qJoins_245) (og_lload_n (i := 2) (j := 2) (by rfl) (by rfl) d_Model_qJoins_247) d_Model_qJoins_248) (og_anil))) ok_Model_qPuts (v_Model_qPuts (by decide)) og_w1719 d_Model_qJoins_249) d_Model_qJoins_252 (by decide)) (og_sbrk (by decide)))) (fun hx => og_sat (og_lkn (by simp_all)) (og_sseq (og_callVv (og_acons (og_aload_n (i := 0) (t := 15) (j := 0) (by rfl) (by rfl) d_Model_qJoins_255) (og_acons (og_eite (og_ccn og_n_gt (og_lle (tgt := 269) (og_ladd_ (og_lload (i := 4) (j := 3) (by rfl) d_Model_qJoins_256) (og_lload_n (i := 2) (j := 2) (by rfl) (by rfl) d_Model_qJoins_258) d_Model_qJoins_259) (og_lconst (x := 0) d_Model_qJoins_260) d_Model_qJoins_261 d_Model_qJoins_262 (by decide))) (og_lconst (x := 1) d_Model_qJoins_265) d_Model_qJoins_266 (by decide) (og_lconst (x := 0) d_Model_qJoins_269)) (og_anil))) ok_Model_qPuts (v_Model_qPuts (by decide)) og_w1719 d_Model_qJoins_270) (og_sbrk (by decide)))))))))))))))))) (by decide)) (fun _ => d_Model_qJoins_273)
abbrev og_c_Model_codesTell : ByteArray := prog_14_method_44_code
abbrev og_y_Model_codesTell : MethodName := ⟨"OpenGravesModel", "codesTell", "(II)J"⟩
theorem v_Model_codesTell {own : String} {idx dep : Nat} (h : 5 + 1 ≤ dep) : og_sV own idx og_y_Model_codesTell og_c_Model_codesTell 5 1 5 dep 13 2 := ⟨⟨12, og_sl_Model, og_T_Model, 102, rfl, by decide, rfl⟩, og_w1717, (og_memP (⟨"OpenGravesModel", "codesTell", "(II)J"⟩, 102) (List.mem_of_getElem? (i := 103) (by decide +kernel))), og_w17, og_w1718, ⟨by decide +kernel, by decide +kernel, by decide +kernel⟩, h, by decide⟩
theorem d_Model_codesTell_0 : decode og_c_Model_codesTell 0 = .ok (.aload_n 0, 1) := by decide +kernel
theorem d_Model_codesTell_1 : decode og_c_Model_codesTell 1 = .ok (.iload_n 2, 1) := by decide +kernel
theorem d_Model_codesTell_2 : decode og_c_Model_codesTell 2 = .ok (.putfield 396, 3) := by decide +kernel
theorem d_Model_codesTell_5 : decode og_c_Model_codesTell 5 = .ok (.aload_n 0, 1) := by decide +kernel
theorem d_Model_codesTell_6 : decode og_c_Model_codesTell 6 = .ok (.iload_n 1, 1) := by decide +kernel
theorem d_Model_codesTell_7 : decode og_c_Model_codesTell 7 = .ok (.invokestatic 322, 3) := by decide +kernel
theorem d_Model_codesTell_10 : decode og_c_Model_codesTell 10 = .ok (.putfield 300, 3) := by decide +kernel
theorem d_Model_codesTell_13 : decode og_c_Model_codesTell 13 = .ok (.aload_n 0, 1) := by decide +kernel
theorem d_Model_codesTell_14 : decode og_c_Model_codesTell 14 = .ok (.iconst 0, 1) := by decide +kernel
theorem d_Model_codesTell_15 : decode og_c_Model_codesTell 15 = .ok (.putfield 399, 3) := by decide +kernel
theorem d_Model_codesTell_18 : decode og_c_Model_codesTell 18 = .ok (.aload_n 0, 1) := by decide +kernel
theorem d_Model_codesTell_19 : decode og_c_Model_codesTell 19 = .ok (.getfield 115, 3) := by decide +kernel
theorem d_Model_codesTell_22 : decode og_c_Model_codesTell 22 = .ok (.iconst 5, 1) := by decide +kernel
theorem d_Model_codesTell_23 : decode og_c_Model_codesTell 23 = .ok (.iload_n 1, 1) := by decide +kernel
theorem d_Model_codesTell_24 : decode og_c_Model_codesTell 24 = .ok (.iadd, 1) := by decide +kernel
theorem d_Model_codesTell_25 : decode og_c_Model_codesTell 25 = .ok (.iaload, 1) := by decide +kernel
theorem d_Model_codesTell_26 : decode og_c_Model_codesTell 26 = .ok (.istore_n 3, 1) := by decide +kernel
theorem d_Model_codesTell_27 : decode og_c_Model_codesTell 27 = .ok (.iload_n 3, 1) := by decide +kernel
theorem d_Model_codesTell_28 : decode og_c_Model_codesTell 28 = .ok (.aload_n 0, 1) := by decide +kernel
theorem d_Model_codesTell_29 : decode og_c_Model_codesTell 29 = .ok (.getfield 118, 3) := by decide +kernel
theorem d_Model_codesTell_32 : decode og_c_Model_codesTell 32 = .ok (.iconst 5, 1) := by decide +kernel
theorem d_Model_codesTell_33 : decode og_c_Model_codesTell 33 = .ok (.iload_n 1, 1) := by decide +kernel
theorem d_Model_codesTell_34 : decode og_c_Model_codesTell 34 = .ok (.iadd, 1) := by decide +kernel
theorem d_Model_codesTell_35 : decode og_c_Model_codesTell 35 = .ok (.iaload, 1) := by decide +kernel
theorem d_Model_codesTell_36 : decode og_c_Model_codesTell 36 = .ok (.if_icmp .ge 122, 3) := by decide +kernel
theorem d_Model_codesTell_39 : decode og_c_Model_codesTell 39 = .ok (.aload_n 0, 1) := by decide +kernel
theorem d_Model_codesTell_40 : decode og_c_Model_codesTell 40 = .ok (.getfield 121, 3) := by decide +kernel
theorem d_Model_codesTell_43 : decode og_c_Model_codesTell 43 = .ok (.sipush 1600, 3) := by decide +kernel
theorem d_Model_codesTell_46 : decode og_c_Model_codesTell 46 = .ok (.iload_n 3, 1) := by decide +kernel
theorem d_Model_codesTell_47 : decode og_c_Model_codesTell 47 = .ok (.iadd, 1) := by decide +kernel
theorem d_Model_codesTell_48 : decode og_c_Model_codesTell 48 = .ok (.iaload, 1) := by decide +kernel
theorem d_Model_codesTell_49 : decode og_c_Model_codesTell 49 = .ok (.istore 4, 2) := by decide +kernel
theorem d_Model_codesTell_51 : decode og_c_Model_codesTell 51 = .ok (.iload 4, 2) := by decide +kernel
theorem d_Model_codesTell_53 : decode og_c_Model_codesTell 53 = .ok (.sipush 1000, 3) := by decide +kernel
theorem d_Model_codesTell_56 : decode og_c_Model_codesTell 56 = .ok (.if_icmp .lt 17, 3) := by decide +kernel
theorem d_Model_codesTell_59 : decode og_c_Model_codesTell 59 = .ok (.aload_n 0, 1) := by decide +kernel
theorem d_Model_codesTell_60 : decode og_c_Model_codesTell 60 = .ok (.iload 4, 2) := by decide +kernel
theorem d_Model_codesTell_62 : decode og_c_Model_codesTell 62 = .ok (.sipush 1000, 3) := by decide +kernel
theorem d_Model_codesTell_65 : decode og_c_Model_codesTell 65 = .ok (.isub, 1) := by decide +kernel
theorem d_Model_codesTell_66 : decode og_c_Model_codesTell 66 = .ok (.i2l, 1) := by decide +kernel
theorem d_Model_codesTell_67 : decode og_c_Model_codesTell 67 = .ok (.invokevirtual 402, 3) := by decide +kernel
theorem d_Model_codesTell_70 : decode og_c_Model_codesTell 70 = .ok (.goto 82, 3) := by decide +kernel
theorem d_Model_codesTell_73 : decode og_c_Model_codesTell 73 = .ok (.iload 4, 2) := by decide +kernel
theorem d_Model_codesTell_75 : decode og_c_Model_codesTell 75 = .ok (.bipush 40, 2) := by decide +kernel
theorem d_Model_codesTell_77 : decode og_c_Model_codesTell 77 = .ok (.if_icmp .lt 20, 3) := by decide +kernel
theorem d_Model_codesTell_80 : decode og_c_Model_codesTell 80 = .ok (.aload_n 0, 1) := by decide +kernel
theorem d_Model_codesTell_81 : decode og_c_Model_codesTell 81 = .ok (.aload_n 0, 1) := by decide +kernel
theorem d_Model_codesTell_82 : decode og_c_Model_codesTell 82 = .ok (.iload 4, 2) := by decide +kernel
theorem d_Model_codesTell_84 : decode og_c_Model_codesTell 84 = .ok (.bipush 40, 2) := by decide +kernel
theorem d_Model_codesTell_86 : decode og_c_Model_codesTell 86 = .ok (.isub, 1) := by decide +kernel
theorem d_Model_codesTell_87 : decode og_c_Model_codesTell 87 = .ok (.iload_n 2, 1) := by decide +kernel
theorem d_Model_codesTell_88 : decode og_c_Model_codesTell 88 = .ok (.invokevirtual 406, 3) := by decide +kernel
theorem d_Model_codesTell_91 : decode og_c_Model_codesTell 91 = .ok (.invokevirtual 402, 3) := by decide +kernel
theorem d_Model_codesTell_94 : decode og_c_Model_codesTell 94 = .ok (.goto 58, 3) := by decide +kernel
theorem d_Model_codesTell_97 : decode og_c_Model_codesTell 97 = .ok (.iload 4, 2) := by decide +kernel
theorem d_Model_codesTell_99 : decode og_c_Model_codesTell 99 = .ok (.bipush 13, 2) := by decide +kernel
theorem d_Model_codesTell_101 : decode og_c_Model_codesTell 101 = .ok (.if_icmp .ne 11, 3) := by decide +kernel
theorem d_Model_codesTell_104 : decode og_c_Model_codesTell 104 = .ok (.aload_n 0, 1) := by decide +kernel
theorem d_Model_codesTell_105 : decode og_c_Model_codesTell 105 = .ok (.lconst 1, 1) := by decide +kernel
theorem d_Model_codesTell_106 : decode og_c_Model_codesTell 106 = .ok (.invokevirtual 402, 3) := by decide +kernel
theorem d_Model_codesTell_109 : decode og_c_Model_codesTell 109 = .ok (.goto 43, 3) := by decide +kernel
theorem d_Model_codesTell_112 : decode og_c_Model_codesTell 112 = .ok (.iload 4, 2) := by decide +kernel
theorem d_Model_codesTell_114 : decode og_c_Model_codesTell 114 = .ok (.bipush 12, 2) := by decide +kernel
theorem d_Model_codesTell_116 : decode og_c_Model_codesTell 116 = .ok (.if_icmp .ne 30, 3) := by decide +kernel
theorem d_Model_codesTell_119 : decode og_c_Model_codesTell 119 = .ok (.aload_n 0, 1) := by decide +kernel
theorem d_Model_codesTell_120 : decode og_c_Model_codesTell 120 = .ok (.getfield 233, 3) := by decide +kernel
theorem d_Model_codesTell_123 : decode og_c_Model_codesTell 123 = .ok (.aload_n 0, 1) := by decide +kernel
theorem d_Model_codesTell_124 : decode og_c_Model_codesTell 124 = .ok (.getfield 399, 3) := by decide +kernel
theorem d_Model_codesTell_127 : decode og_c_Model_codesTell 127 = .ok (.iconst 1, 1) := by decide +kernel
theorem d_Model_codesTell_128 : decode og_c_Model_codesTell 128 = .ok (.isub, 1) := by decide +kernel
theorem d_Model_codesTell_129 : decode og_c_Model_codesTell 129 = .ok (.lconst 1, 1) := by decide +kernel
theorem d_Model_codesTell_130 : decode og_c_Model_codesTell 130 = .ok (.aload_n 0, 1) := by decide +kernel
theorem d_Model_codesTell_131 : decode og_c_Model_codesTell 131 = .ok (.getfield 233, 3) := by decide +kernel
theorem d_Model_codesTell_134 : decode og_c_Model_codesTell 134 = .ok (.aload_n 0, 1) := by decide +kernel
theorem d_Model_codesTell_135 : decode og_c_Model_codesTell 135 = .ok (.getfield 399, 3) := by decide +kernel
theorem d_Model_codesTell_138 : decode og_c_Model_codesTell 138 = .ok (.iconst 1, 1) := by decide +kernel
theorem d_Model_codesTell_139 : decode og_c_Model_codesTell 139 = .ok (.isub, 1) := by decide +kernel
theorem d_Model_codesTell_140 : decode og_c_Model_codesTell 140 = .ok (.laload, 1) := by decide +kernel
theorem d_Model_codesTell_141 : decode og_c_Model_codesTell 141 = .ok (.lsub, 1) := by decide +kernel
theorem d_Model_codesTell_142 : decode og_c_Model_codesTell 142 = .ok (.lastore, 1) := by decide +kernel
theorem d_Model_codesTell_143 : decode og_c_Model_codesTell 143 = .ok (.goto 9, 3) := by decide +kernel
theorem d_Model_codesTell_146 : decode og_c_Model_codesTell 146 = .ok (.aload_n 0, 1) := by decide +kernel
theorem d_Model_codesTell_147 : decode og_c_Model_codesTell 147 = .ok (.iload 4, 2) := by decide +kernel
theorem d_Model_codesTell_149 : decode og_c_Model_codesTell 149 = .ok (.invokevirtual 410, 3) := by decide +kernel
theorem d_Model_codesTell_152 : decode og_c_Model_codesTell 152 = .ok (.iinc 3 1, 3) := by decide +kernel
theorem d_Model_codesTell_155 : decode og_c_Model_codesTell 155 = .ok (.goto (-128), 3) := by decide +kernel
theorem d_Model_codesTell_158 : decode og_c_Model_codesTell 158 = .ok (.aload_n 0, 1) := by decide +kernel
theorem d_Model_codesTell_159 : decode og_c_Model_codesTell 159 = .ok (.getfield 233, 3) := by decide +kernel
theorem d_Model_codesTell_162 : decode og_c_Model_codesTell 162 = .ok (.iconst 0, 1) := by decide +kernel
theorem d_Model_codesTell_163 : decode og_c_Model_codesTell 163 = .ok (.laload, 1) := by decide +kernel
theorem d_Model_codesTell_164 : decode og_c_Model_codesTell 164 = .ok (.lreturn, 1) := by decide +kernel
def m_Model_codesTell : og_Dn := og_den [17, 0, 0] 5 1 (og_seq (og_putf 51 (og_loc 0) (og_loc 2)) (og_seq (og_putf 48 (og_loc 0) (og_call m_Model_kindOf [og_loc 1])) (og_seq (og_putf 97 (og_loc 0) (og_k 0)) (og_cut (og_seq (og_set 3 (og_ald 10 (og_fix (fun _ => 1034) (og_loc 0)) (og_add (og_k 5) (og_loc 1)))) (og_while (og_cc og_rlt (og_loc 3) (og_ald 10 (og_fix (fun _ => 1035) (og_loc 0)) (og_add (og_k 5) (og_loc 1)))) (og_seq (og_set 4 (og_ald 3200 (og_fix (fun _ => 1036) (og_loc 0)) (og_add (og_k 1600) (og_loc 3)))) (og_if (og_cc og_rge (og_loc 4) (og_k 1000)) (og_exp (og_call m_Model_qPuts [og_loc 0, og_i2l (og_sub (og_loc 4) (og_k 1000))])) (og_if (og_cc og_rge (og_loc 4) (og_k 40)) (og_exp (og_call m_Model_qPuts [og_loc 0, og_call m_Model_qPartOf [og_loc 0, og_sub (og_loc 4) (og_k 40), og_loc 2]])) (og_if (og_cc og_req (og_loc 4) (og_k 13)) (og_exp (og_call m_Model_qPuts [og_loc 0, og_k 1])) (og_if (og_cc og_req (og_loc 4) (og_k 12)) (og_ast 1700 (og_fix (fun _ => 1072) (og_loc 0)) (og_sub (og_get 97 (og_loc 0)) (og_k 1)) (og_lsub (og_k 1) (og_ald 1700 (og_fix (fun _ => 1072) (og_loc 0)) (og_sub (og_get 97 (og_loc 0)) (og_k 1))))) (og_exp (og_call m_Model_qJoins [og_loc 0, og_loc 4]))))))) (og_inc 3 1))) (og_ret (og_ald 1700 (og_fix (fun _ => 1072) (og_loc 0)) (og_k 0)))))))
set_option maxRecDepth 20000 in
theorem ok_Model_codesTell : og_MOK og_y_Model_codesTell og_c_Model_codesTell 5 1 5 [17, 0, 0] m_Model_codesTell := og_method (b := 0) (lt' := []) (by decide +kernel) (by decide) (by decide) (og_sseq (og_p_Model_askPerson (og_aload_n (i := 0) (t := 15) (j := 0) (by rfl) (by rfl) d_Model_codesTell_0) (og_iload_n (i := 2) (j := 2) (by rfl) (by rfl) d_Model_codesTell_1) og_w1194 d_Model_codesTell_2) (og_sseq (og_p_Model_textKind (og_aload_n (i := 0) (t := 15) (j := 0) (by rfl) (by rfl) d_Model_codesTell_5) (og_callSi (og_acons (og_iload_n (i := 1) (j := 1) (by rfl) (by rfl) d_Model_codesTell_6) (og_anil)) (by decide) ok_Model_kindOf (v_Model_kindOf (by decide)) og_w1531 d_Model_codesTell_7) og_w1191 d_Model_codesTell_10) (og_sseq (og_p_Model_qPiled (og_aload_n (i := 0) (t := 15) (j := 0) (by rfl) (by rfl) d_Model_codesTell_13) (og_iconst (by decide) d_Model_codesTell_14) og_w1240 d_Model_codesTell_15) (og_scut (og_sdrop (lt' := [(0, 17), (1, 0), (2, 0), (3, 0)]) (lt2 := [(0, 17), (1, 0), (2, 0)]) (og_sseq (og_istore_n (i := 3) (lt' := [(0, 17), (1, 0), (2, 0), (3, 0)]) (og_iald (N := 10) (og_f_Model_codeFrom (og_aload_n (i := 0) (t := 15) (j := 0) (by rfl) (by rfl) d_Model_codesTell_18) og_w1186 d_Model_codesTell_19) (by rfl) (og_iadd (og_iconst (by decide) d_Model_codesTell_22) (og_iload_n (i := 1) (j := 1) (by rfl) (by rfl) d_Model_codesTell_23) d_Model_codesTell_24) d_Model_codesTell_25) (by rfl) (by decide) (by decide) d_Model_codesTell_26) (og_swhile (T := 39) (F := 158) (cp0 := 152) (og_ccn og_n_lt (og_ige (tgt := 158) (og_iload_n (i := 3) (j := 3) (by rfl) (by rfl) d_Model_codesTell_27) (og_iald (N := 10) (og_f_Model_codeEnd (og_aload_n (i := 0) (t := 15) (j := 0) (by rfl) (by rfl) d_Model_codesTell_28) og_w1187 d_Model_codesTell_29) (by rfl) (og_iadd (og_iconst (by decide) d_Model_codesTell_32) (og_iload_n (i := 1) (j := 1) (by rfl) (by rfl) d_Model_codesTell_33) d_Model_codesTell_34) d_Model_codesTell_35) d_Model_codesTell_36 (by decide))) (og_sdrop (lt' := [(0, 17), (1, 0), (2, 0), (3, 0), (4, 0)]) (lt2 := [(0, 17), (1, 0), (2, 0), (3, 0)]) (og_sseq (og_istore (i := 4) (lt' := [(0, 17), (1, 0), (2, 0), (3, 0), (4, 0)]) (og_iald (N := 3200) (og_f_Model_codes (og_aload_n (i := 0) (t := 15) (j := 0) (by rfl) (by rfl) d_Model_codesTell_39) og_w1188 d_Model_codesTell_40) (by rfl) (og_iadd (og_sipush (by decide) d_Model_codesTell_43) (og_iload_n (i := 3) (j := 3) (by rfl) (by rfl) d_Model_codesTell_46) d_Model_codesTell_47) d_Model_codesTell_48) (by decide) (by decide) d_Model_codesTell_49) (og_sif (T := 59) (F := 73) (og_ccn og_n_ge (og_ilt (tgt := 73) (og_iload (i := 4) (j := 4) (by rfl) d_Model_codesTell_51) (og_sipush (by decide) d_Model_codesTell_53) d_Model_codesTell_56 (by decide))) (og_gS (b' := 152) (og_callVv (og_acons (og_aload_n (i := 0) (t := 15) (j := 0) (by rfl) (by rfl) d_Model_codesTell_59) (og_acons (og_i2l_ (og_isub (og_iload (i := 4) (j := 4) (by rfl) d_Model_codesTell_60) (og_sipush (by decide) d_Model_codesTell_62) d_Model_codesTell_65) d_Model_codesTell_66) (og_anil))) ok_Model_qPuts (v_Model_qPuts (by decide)) og_w1719 d_Model_codesTell_67) d_Model_codesTell_70 (by decide)) (og_sif (T := 80) (F := 97) (og_ccn og_n_ge (og_ilt (tgt := 97) (og_iload (i := 4) (j := 4) (by rfl) d_Model_codesTell_73) (og_bipush (by decide) d_Model_codesTell_75) d_Model_codesTell_77 (by decide))) (og_gS (b' := 152) (og_callVv (og_acons (og_aload_n (i := 0) (t := 15) (j := 0) (by rfl) (by rfl) d_Model_codesTell_80) (og_acons (og_callVl (og_acons (og_aload_n (i := 0) (t := 15) (j := 0) (by rfl) (by rfl) d_Model_codesTell_81) (og_acons (og_isub (og_iload (i := 4) (j := 4) (by rfl) d_Model_codesTell_82) (og_bipush (by decide) d_Model_codesTell_84) d_Model_codesTell_86) (og_acons (og_iload_n (i := 2) (j := 2) (by rfl) (by rfl) d_Model_codesTell_87) (og_anil)))) (by decide) ok_Model_qPartOf (v_Model_qPartOf (by decide)) og_w1723 d_Model_codesTell_88) (og_anil))) ok_Model_qPuts (v_Model_qPuts (by decide)) og_w1719 d_Model_codesTell_91) d_Model_codesTell_94 (by decide)) (og_sif (T := 104) (F := 112) (og_ccn og_n_eq (og_ine (tgt := 112) (og_iload (i := 4) (j := 4) (by rfl) d_Model_codesTell_97) (og_bipush (by decide) d_Model_codesTell_99) d_Model_codesTell_101 (by decide))) (og_gS (b' := 152) (og_callVv (og_acons (og_aload_n (i := 0) (t := 15) (j := 0) (by rfl) (by rfl) d_Model_codesTell_104) (og_acons (og_lconst (x := 1) d_Model_codesTell_105) (og_anil))) ok_Model_qPuts (v_Model_qPuts (by decide)) og_w1719 d_Model_codesTell_106) d_Model_codesTell_109 (by decide)) (og_sif (T := 119) (F := 146) (og_ccn og_n_eq (og_ine (tgt := 146) (og_iload (i := 4) (j := 4) (by rfl) d_Model_codesTell_112) (og_bipush (by decide) d_Model_codesTell_114) d_Model_codesTell_116 (by decide))) (og_gS (b' := 152) (og_lastore (N := 1700) (og_f_Model_qPile (og_aload_n (i := 0) (t := 15) (j := 0) (by rfl) (by rfl) d_Model_codesTell_119) og_w1239 d_Model_codesTell_120) (by rfl) (og_isub (og_f_Model_qPiled (og_aload_n (i := 0) (t := 15) (j := 0) (by rfl) (by rfl) d_Model_codesTell_123) og_w1240 d_Model_codesTell_124) (og_iconst (by decide) d_Model_codesTell_127) d_Model_codesTell_128) (og_lsub_ (og_lconst (x := 1) d_Model_codesTell_129) (og_lald (N := 1700) (og_f_Model_qPile (og_aload_n (i := 0) (t := 15) (j := 0) (by rfl) (by rfl) d_Model_codesTell_130) og_w1239 d_Model_codesTell_131) (by rfl) (og_isub (og_f_Model_qPiled (og_aload_n (i := 0) (t := 15) (j := 0) (by rfl) (by rfl) d_Model_codesTell_134) og_w1240 d_Model_codesTell_135) (og_iconst (by decide) d_Model_codesTell_138) d_Model_codesTell_139) d_Model_codesTell_140) d_Model_codesTell_141) d_Model_codesTell_142) d_Model_codesTell_143 (by decide)) (og_callVv (og_acons (og_aload_n (i := 0) (t := 15) (j := 0) (by rfl) (by rfl) d_Model_codesTell_146) (og_acons (og_iload (i := 4) (j := 4) (by rfl) d_Model_codesTell_147) (og_anil))) ok_Model_qJoins (v_Model_qJoins (by decide)) og_w1727 d_Model_codesTell_149)))))) (by decide)) (og_gS (b' := 27) (og_iinc (j := 3) (lt' := [(0, 17), (1, 0), (2, 0), (3, 0)]) (by rfl) (by decide) (by decide) d_Model_codesTell_152) d_Model_codesTell_155 (by decide)))) (by decide)) (og_sretl (og_lald (N := 1700) (og_f_Model_qPile (og_aload_n (i := 0) (t := 15) (j := 0) (by rfl) (by rfl) d_Model_codesTell_158) og_w1239 d_Model_codesTell_159) (by rfl) (og_iconst (by decide) d_Model_codesTell_162) d_Model_codesTell_163) d_Model_codesTell_164))))) (fun h => by cases h)
abbrev og_c_Model_diesOf : ByteArray := prog_14_method_45_code
abbrev og_y_Model_diesOf : MethodName := ⟨"OpenGravesModel", "diesOf", "(I)I"⟩
theorem v_Model_diesOf {own : String} {idx dep : Nat} (h : 6 + 1 ≤ dep) : og_sV own idx og_y_Model_diesOf og_c_Model_diesOf 2 0 6 dep 13 1 := ⟨⟨12, og_sl_Model, og_T_Model, 102, rfl, by decide, rfl⟩, og_w1709, (og_memP (⟨"OpenGravesModel", "diesOf", "(I)I"⟩, 102) (List.mem_of_getElem? (i := 101) (by decide +kernel))), og_w17, og_w1710, ⟨by decide +kernel, by decide +kernel, by decide +kernel⟩, h, by decide⟩
theorem d_Model_diesOf_0 : decode og_c_Model_diesOf 0 = .ok (.aload_n 0, 1) := by decide +kernel
theorem d_Model_diesOf_1 : decode og_c_Model_diesOf 1 = .ok (.iconst 0, 1) := by decide +kernel
theorem d_Model_diesOf_2 : decode og_c_Model_diesOf 2 = .ok (.invokevirtual 413, 3) := by decide +kernel
theorem d_Model_diesOf_5 : decode og_c_Model_diesOf 5 = .ok (.ifCond .eq 12, 3) := by decide +kernel
theorem d_Model_diesOf_8 : decode og_c_Model_diesOf 8 = .ok (.aload_n 0, 1) := by decide +kernel
theorem d_Model_diesOf_9 : decode og_c_Model_diesOf 9 = .ok (.iconst 0, 1) := by decide +kernel
theorem d_Model_diesOf_10 : decode og_c_Model_diesOf 10 = .ok (.iload_n 1, 1) := by decide +kernel
theorem d_Model_diesOf_11 : decode og_c_Model_diesOf 11 = .ok (.invokevirtual 416, 3) := by decide +kernel
theorem d_Model_diesOf_14 : decode og_c_Model_diesOf 14 = .ok (.goto 12, 3) := by decide +kernel
theorem d_Model_diesOf_17 : decode og_c_Model_diesOf 17 = .ok (.aload_n 0, 1) := by decide +kernel
theorem d_Model_diesOf_18 : decode og_c_Model_diesOf 18 = .ok (.iload_n 1, 1) := by decide +kernel
theorem d_Model_diesOf_19 : decode og_c_Model_diesOf 19 = .ok (.invokevirtual 419, 3) := by decide +kernel
theorem d_Model_diesOf_22 : decode og_c_Model_diesOf 22 = .ok (.bipush 10, 2) := by decide +kernel
theorem d_Model_diesOf_24 : decode og_c_Model_diesOf 24 = .ok (.idiv, 1) := by decide +kernel
theorem d_Model_diesOf_25 : decode og_c_Model_diesOf 25 = .ok (.i2l, 1) := by decide +kernel
theorem d_Model_diesOf_26 : decode og_c_Model_diesOf 26 = .ok (.bipush 100, 2) := by decide +kernel
theorem d_Model_diesOf_28 : decode og_c_Model_diesOf 28 = .ok (.invokestatic 422, 3) := by decide +kernel
theorem d_Model_diesOf_31 : decode og_c_Model_diesOf 31 = .ok (.ireturn, 1) := by decide +kernel
def m_Model_diesOf : og_Dn := og_den [17, 0] 2 0 (og_ret (og_call m_Model_cut [og_ei (og_cb (og_call m_Model_isTold [og_loc 0, og_k 0])) (og_call m_Model_codesTell [og_loc 0, og_k 0, og_loc 1]) (og_i2l (og_div (og_call m_Model_ageOf [og_loc 0, og_loc 1]) (og_k 10))), og_k 100]))
set_option maxRecDepth 20000 in
theorem ok_Model_diesOf : og_MOK og_y_Model_diesOf og_c_Model_diesOf 2 0 6 [17, 0] m_Model_diesOf := og_method (b := 0) (lt' := []) (by decide +kernel) (by decide) (by decide) (og_sreti (og_callSi (og_acons (og_eite (og_cbeq (tgt := 17) (og_callVz (og_acons (og_aload_n (i := 0) (t := 15) (j := 0) (by rfl) (by rfl) d_Model_diesOf_0) (og_acons (og_iconst (by decide) d_Model_diesOf_1) (og_anil))) (by decide) ok_Model_isTold (v_Model_isTold (by decide)) og_w1711 d_Model_diesOf_2) d_Model_diesOf_5 (by decide)) (og_callVl (og_acons (og_aload_n (i := 0) (t := 15) (j := 0) (by rfl) (by rfl) d_Model_diesOf_8) (og_acons (og_iconst (by decide) d_Model_diesOf_9) (og_acons (og_iload_n (i := 1) (j := 1) (by rfl) (by rfl) d_Model_diesOf_10) (og_anil)))) (by decide) ok_Model_codesTell (v_Model_codesTell (by decide)) og_w1715 d_Model_diesOf_11) d_Model_diesOf_14 (by decide) (og_i2l_ (og_idiv (og_callVi (og_acons (og_aload_n (i := 0) (t := 15) (j := 0) (by rfl) (by rfl) d_Model_diesOf_17) (og_acons (og_iload_n (i := 1) (j := 1) (by rfl) (by rfl) d_Model_diesOf_18) (og_anil))) (by decide) ok_Model_ageOf (v_Model_ageOf (by decide)) og_w1694 d_Model_diesOf_19) (og_bipush (by decide) d_Model_diesOf_22) d_Model_diesOf_24) d_Model_diesOf_25)) (og_acons (og_bipush (by decide) d_Model_diesOf_26) (og_anil))) (by decide) ok_Model_cut (v_Model_cut (by decide)) og_w1739 d_Model_diesOf_28) d_Model_diesOf_31) (fun h => by cases h)
abbrev og_c_Model_doesCome : ByteArray := prog_14_method_46_code
abbrev og_y_Model_doesCome : MethodName := ⟨"OpenGravesModel", "doesCome", "(I)Z"⟩
theorem v_Model_doesCome {own : String} {idx dep : Nat} (h : 6 + 1 ≤ dep) : og_sV own idx og_y_Model_doesCome og_c_Model_doesCome 2 3 6 dep 13 1 := ⟨⟨12, og_sl_Model, og_T_Model, 102, rfl, by decide, rfl⟩, og_w1798, (og_memP (⟨"OpenGravesModel", "doesCome", "(I)Z"⟩, 102) (List.mem_of_getElem? (i := 117) (by decide +kernel))), og_w17, og_w1799, ⟨by decide +kernel, by decide +kernel, by decide +kernel⟩, h, by decide⟩
theorem d_Model_doesCome_0 : decode og_c_Model_doesCome 0 = .ok (.aload_n 0, 1) := by decide +kernel
theorem d_Model_doesCome_1 : decode og_c_Model_doesCome 1 = .ok (.iconst 1, 1) := by decide +kernel
theorem d_Model_doesCome_2 : decode og_c_Model_doesCome 2 = .ok (.invokevirtual 413, 3) := by decide +kernel
theorem d_Model_doesCome_5 : decode og_c_Model_doesCome 5 = .ok (.ifCond .eq 22, 3) := by decide +kernel
theorem d_Model_doesCome_8 : decode og_c_Model_doesCome 8 = .ok (.aload_n 0, 1) := by decide +kernel
theorem d_Model_doesCome_9 : decode og_c_Model_doesCome 9 = .ok (.iconst 1, 1) := by decide +kernel
theorem d_Model_doesCome_10 : decode og_c_Model_doesCome 10 = .ok (.iload_n 1, 1) := by decide +kernel
theorem d_Model_doesCome_11 : decode og_c_Model_doesCome 11 = .ok (.invokevirtual 416, 3) := by decide +kernel
theorem d_Model_doesCome_14 : decode og_c_Model_doesCome 14 = .ok (.lconst 1, 1) := by decide +kernel
theorem d_Model_doesCome_15 : decode og_c_Model_doesCome 15 = .ok (.lcmp, 1) := by decide +kernel
theorem d_Model_doesCome_16 : decode og_c_Model_doesCome 16 = .ok (.ifCond .ne 7, 3) := by decide +kernel
theorem d_Model_doesCome_19 : decode og_c_Model_doesCome 19 = .ok (.iconst 1, 1) := by decide +kernel
theorem d_Model_doesCome_20 : decode og_c_Model_doesCome 20 = .ok (.goto 22, 3) := by decide +kernel
theorem d_Model_doesCome_23 : decode og_c_Model_doesCome 23 = .ok (.iconst 0, 1) := by decide +kernel
theorem d_Model_doesCome_24 : decode og_c_Model_doesCome 24 = .ok (.goto 18, 3) := by decide +kernel
theorem d_Model_doesCome_27 : decode og_c_Model_doesCome 27 = .ok (.aload_n 0, 1) := by decide +kernel
theorem d_Model_doesCome_28 : decode og_c_Model_doesCome 28 = .ok (.iload_n 1, 1) := by decide +kernel
theorem d_Model_doesCome_29 : decode og_c_Model_doesCome 29 = .ok (.invokevirtual 426, 3) := by decide +kernel
theorem d_Model_doesCome_32 : decode og_c_Model_doesCome 32 = .ok (.bipush 8, 2) := by decide +kernel
theorem d_Model_doesCome_34 : decode og_c_Model_doesCome 34 = .ok (.if_icmp .le 7, 3) := by decide +kernel
theorem d_Model_doesCome_37 : decode og_c_Model_doesCome 37 = .ok (.iconst 1, 1) := by decide +kernel
theorem d_Model_doesCome_38 : decode og_c_Model_doesCome 38 = .ok (.goto 4, 3) := by decide +kernel
theorem d_Model_doesCome_41 : decode og_c_Model_doesCome 41 = .ok (.iconst 0, 1) := by decide +kernel
theorem d_Model_doesCome_42 : decode og_c_Model_doesCome 42 = .ok (.ireturn, 1) := by decide +kernel
def m_Model_doesCome : og_Dn := og_den [17, 0] 2 3 (og_retz (og_ei (og_cb (og_call m_Model_isTold [og_loc 0, og_k 1])) (og_ec (og_cc og_req (og_call m_Model_codesTell [og_loc 0, og_k 1, og_loc 1]) (og_k 1))) (og_ec (og_cc og_rgt (og_call m_Model_willOf [og_loc 0, og_loc 1]) (og_k 8)))))
set_option maxRecDepth 20000 in
theorem ok_Model_doesCome : og_MOK og_y_Model_doesCome og_c_Model_doesCome 2 3 6 [17, 0] m_Model_doesCome := og_method (b := 0) (lt' := []) (by decide +kernel) (by decide) (by decide) (og_sretz (og_eite2 (og_cbeq (tgt := 27) (og_callVz (og_acons (og_aload_n (i := 0) (t := 15) (j := 0) (by rfl) (by rfl) d_Model_doesCome_0) (og_acons (og_iconst (by decide) d_Model_doesCome_1) (og_anil))) (by decide) ok_Model_isTold (v_Model_isTold (by decide)) og_w1711 d_Model_doesCome_2) d_Model_doesCome_5 (by decide)) (og_econd2 (og_ccn og_n_eq (og_lne (tgt := 23) (og_callVl (og_acons (og_aload_n (i := 0) (t := 15) (j := 0) (by rfl) (by rfl) d_Model_doesCome_8) (og_acons (og_iconst (by decide) d_Model_doesCome_9) (og_acons (og_iload_n (i := 1) (j := 1) (by rfl) (by rfl) d_Model_doesCome_10) (og_anil)))) (by decide) ok_Model_codesTell (v_Model_codesTell (by decide)) og_w1715 d_Model_doesCome_11) (og_lconst (x := 1) d_Model_doesCome_14) d_Model_doesCome_15 d_Model_doesCome_16 (by decide))) d_Model_doesCome_19 d_Model_doesCome_20 (by decide) d_Model_doesCome_23 d_Model_doesCome_24 (by decide)) (og_econd (b := 0) (og_ccn og_n_gt (og_ile (tgt := 41) (og_callVi (og_acons (og_aload_n (i := 0) (t := 15) (j := 0) (by rfl) (by rfl) d_Model_doesCome_27) (og_acons (og_iload_n (i := 1) (j := 1) (by rfl) (by rfl) d_Model_doesCome_28) (og_anil))) (by decide) ok_Model_willOf (v_Model_willOf (by decide)) og_w1698 d_Model_doesCome_29) (og_bipush (by decide) d_Model_doesCome_32) d_Model_doesCome_34 (by decide))) d_Model_doesCome_37 d_Model_doesCome_38 (by decide) d_Model_doesCome_41 (by rfl))) d_Model_doesCome_42) (fun h => by cases h)
abbrev og_c_Model_takesOf : ByteArray := prog_14_method_47_code
abbrev og_y_Model_takesOf : MethodName := ⟨"OpenGravesModel", "takesOf", "(I)J"⟩
theorem v_Model_takesOf {own : String} {idx dep : Nat} (h : 6 + 1 ≤ dep) : og_sV own idx og_y_Model_takesOf og_c_Model_takesOf 2 1 6 dep 13 1 := ⟨⟨12, og_sl_Model, og_T_Model, 102, rfl, by decide, rfl⟩, og_w1744, (og_memP (⟨"OpenGravesModel", "takesOf", "(I)J"⟩, 102) (List.mem_of_getElem? (i := 107) (by decide +kernel))), og_w17, og_w1745, ⟨by decide +kernel, by decide +kernel, by decide +kernel⟩, h, by decide⟩
theorem d_Model_takesOf_0 : decode og_c_Model_takesOf 0 = .ok (.aload_n 0, 1) := by decide +kernel
theorem d_Model_takesOf_1 : decode og_c_Model_takesOf 1 = .ok (.iconst 2, 1) := by decide +kernel
theorem d_Model_takesOf_2 : decode og_c_Model_takesOf 2 = .ok (.invokevirtual 413, 3) := by decide +kernel
theorem d_Model_takesOf_5 : decode og_c_Model_takesOf 5 = .ok (.ifCond .eq 12, 3) := by decide +kernel
theorem d_Model_takesOf_8 : decode og_c_Model_takesOf 8 = .ok (.aload_n 0, 1) := by decide +kernel
theorem d_Model_takesOf_9 : decode og_c_Model_takesOf 9 = .ok (.iconst 2, 1) := by decide +kernel
theorem d_Model_takesOf_10 : decode og_c_Model_takesOf 10 = .ok (.iload_n 1, 1) := by decide +kernel
theorem d_Model_takesOf_11 : decode og_c_Model_takesOf 11 = .ok (.invokevirtual 416, 3) := by decide +kernel
theorem d_Model_takesOf_14 : decode og_c_Model_takesOf 14 = .ok (.goto 9, 3) := by decide +kernel
theorem d_Model_takesOf_17 : decode og_c_Model_takesOf 17 = .ok (.aload_n 0, 1) := by decide +kernel
theorem d_Model_takesOf_18 : decode og_c_Model_takesOf 18 = .ok (.iload_n 1, 1) := by decide +kernel
theorem d_Model_takesOf_19 : decode og_c_Model_takesOf 19 = .ok (.invokevirtual 419, 3) := by decide +kernel
theorem d_Model_takesOf_22 : decode og_c_Model_takesOf 22 = .ok (.i2l, 1) := by decide +kernel
theorem d_Model_takesOf_23 : decode og_c_Model_takesOf 23 = .ok (.lreturn, 1) := by decide +kernel
def m_Model_takesOf : og_Dn := og_den [17, 0] 2 1 (og_ret (og_ei (og_cb (og_call m_Model_isTold [og_loc 0, og_k 2])) (og_call m_Model_codesTell [og_loc 0, og_k 2, og_loc 1]) (og_i2l (og_call m_Model_ageOf [og_loc 0, og_loc 1]))))
set_option maxRecDepth 20000 in
theorem ok_Model_takesOf : og_MOK og_y_Model_takesOf og_c_Model_takesOf 2 1 6 [17, 0] m_Model_takesOf := og_method (b := 0) (lt' := []) (by decide +kernel) (by decide) (by decide) (og_sretl (og_eite (og_cbeq (tgt := 17) (og_callVz (og_acons (og_aload_n (i := 0) (t := 15) (j := 0) (by rfl) (by rfl) d_Model_takesOf_0) (og_acons (og_iconst (by decide) d_Model_takesOf_1) (og_anil))) (by decide) ok_Model_isTold (v_Model_isTold (by decide)) og_w1711 d_Model_takesOf_2) d_Model_takesOf_5 (by decide)) (og_callVl (og_acons (og_aload_n (i := 0) (t := 15) (j := 0) (by rfl) (by rfl) d_Model_takesOf_8) (og_acons (og_iconst (by decide) d_Model_takesOf_9) (og_acons (og_iload_n (i := 1) (j := 1) (by rfl) (by rfl) d_Model_takesOf_10) (og_anil)))) (by decide) ok_Model_codesTell (v_Model_codesTell (by decide)) og_w1715 d_Model_takesOf_11) d_Model_takesOf_14 (by decide) (og_i2l_ (og_callVi (og_acons (og_aload_n (i := 0) (t := 15) (j := 0) (by rfl) (by rfl) d_Model_takesOf_17) (og_acons (og_iload_n (i := 1) (j := 1) (by rfl) (by rfl) d_Model_takesOf_18) (og_anil))) (by decide) ok_Model_ageOf (v_Model_ageOf (by decide)) og_w1694 d_Model_takesOf_19) d_Model_takesOf_22)) d_Model_takesOf_23) (fun h => by cases h)
abbrev og_c_Model_harmOf : ByteArray := prog_14_method_48_code
abbrev og_y_Model_harmOf : MethodName := ⟨"OpenGravesModel", "harmOf", "(I)I"⟩
theorem v_Model_harmOf {own : String} {idx dep : Nat} (h : 6 + 1 ≤ dep) : og_sV own idx og_y_Model_harmOf og_c_Model_harmOf 2 0 6 dep 13 1 := ⟨⟨12, og_sl_Model, og_T_Model, 102, rfl, by decide, rfl⟩, og_w1748, (og_memP (⟨"OpenGravesModel", "harmOf", "(I)I"⟩, 102) (List.mem_of_getElem? (i := 108) (by decide +kernel))), og_w17, og_w1749, ⟨by decide +kernel, by decide +kernel, by decide +kernel⟩, h, by decide⟩
theorem d_Model_harmOf_0 : decode og_c_Model_harmOf 0 = .ok (.aload_n 0, 1) := by decide +kernel
theorem d_Model_harmOf_1 : decode og_c_Model_harmOf 1 = .ok (.iconst 4, 1) := by decide +kernel
theorem d_Model_harmOf_2 : decode og_c_Model_harmOf 2 = .ok (.invokevirtual 413, 3) := by decide +kernel
theorem d_Model_harmOf_5 : decode og_c_Model_harmOf 5 = .ok (.ifCond .eq 12, 3) := by decide +kernel
theorem d_Model_harmOf_8 : decode og_c_Model_harmOf 8 = .ok (.aload_n 0, 1) := by decide +kernel
theorem d_Model_harmOf_9 : decode og_c_Model_harmOf 9 = .ok (.iconst 4, 1) := by decide +kernel
theorem d_Model_harmOf_10 : decode og_c_Model_harmOf 10 = .ok (.iload_n 1, 1) := by decide +kernel
theorem d_Model_harmOf_11 : decode og_c_Model_harmOf 11 = .ok (.invokevirtual 416, 3) := by decide +kernel
theorem d_Model_harmOf_14 : decode og_c_Model_harmOf 14 = .ok (.goto 13, 3) := by decide +kernel
theorem d_Model_harmOf_17 : decode og_c_Model_harmOf 17 = .ok (.ldc2_w 429, 3) := by decide +kernel
theorem d_Model_harmOf_20 : decode og_c_Model_harmOf 20 = .ok (.aload_n 0, 1) := by decide +kernel
theorem d_Model_harmOf_21 : decode og_c_Model_harmOf 21 = .ok (.iload_n 1, 1) := by decide +kernel
theorem d_Model_harmOf_22 : decode og_c_Model_harmOf 22 = .ok (.invokevirtual 426, 3) := by decide +kernel
theorem d_Model_harmOf_25 : decode og_c_Model_harmOf 25 = .ok (.i2l, 1) := by decide +kernel
theorem d_Model_harmOf_26 : decode og_c_Model_harmOf 26 = .ok (.lsub, 1) := by decide +kernel
theorem d_Model_harmOf_27 : decode og_c_Model_harmOf 27 = .ok (.sipush 999, 3) := by decide +kernel
theorem d_Model_harmOf_30 : decode og_c_Model_harmOf 30 = .ok (.invokestatic 422, 3) := by decide +kernel
theorem d_Model_harmOf_33 : decode og_c_Model_harmOf 33 = .ok (.ireturn, 1) := by decide +kernel
def m_Model_harmOf : og_Dn := og_den [17, 0] 2 0 (og_ret (og_call m_Model_cut [og_ei (og_cb (og_call m_Model_isTold [og_loc 0, og_k 4])) (og_call m_Model_codesTell [og_loc 0, og_k 4, og_loc 1]) (og_lsub (og_k 9) (og_i2l (og_call m_Model_willOf [og_loc 0, og_loc 1]))), og_k 999]))
set_option maxRecDepth 20000 in
theorem ok_Model_harmOf : og_MOK og_y_Model_harmOf og_c_Model_harmOf 2 0 6 [17, 0] m_Model_harmOf := og_method (b := 0) (lt' := []) (by decide +kernel) (by decide) (by decide) (og_sreti (og_callSi (og_acons (og_eite (og_cbeq (tgt := 17) (og_callVz (og_acons (og_aload_n (i := 0) (t := 15) (j := 0) (by rfl) (by rfl) d_Model_harmOf_0) (og_acons (og_iconst (by decide) d_Model_harmOf_1) (og_anil))) (by decide) ok_Model_isTold (v_Model_isTold (by decide)) og_w1711 d_Model_harmOf_2) d_Model_harmOf_5 (by decide)) (og_callVl (og_acons (og_aload_n (i := 0) (t := 15) (j := 0) (by rfl) (by rfl) d_Model_harmOf_8) (og_acons (og_iconst (by decide) d_Model_harmOf_9) (og_acons (og_iload_n (i := 1) (j := 1) (by rfl) (by rfl) d_Model_harmOf_10) (og_anil)))) (by decide) ok_Model_codesTell (v_Model_codesTell (by decide)) og_w1715 d_Model_harmOf_11) d_Model_harmOf_14 (by decide) (og_lsub_ (og_ldc2 (x := 9) (by decide) og_w1750 d_Model_harmOf_17) (og_i2l_ (og_callVi (og_acons (og_aload_n (i := 0) (t := 15) (j := 0) (by rfl) (by rfl) d_Model_harmOf_20) (og_acons (og_iload_n (i := 1) (j := 1) (by rfl) (by rfl) d_Model_harmOf_21) (og_anil))) (by decide) ok_Model_willOf (v_Model_willOf (by decide)) og_w1698 d_Model_harmOf_22) d_Model_harmOf_25) d_Model_harmOf_26)) (og_acons (og_sipush (by decide) d_Model_harmOf_27) (og_anil))) (by decide) ok_Model_cut (v_Model_cut (by decide)) og_w1739 d_Model_harmOf_30) d_Model_harmOf_33) (fun h => by cases h)
abbrev og_c_Model_nextFor : ByteArray := prog_14_method_49_code
abbrev og_y_Model_nextFor : MethodName := ⟨"OpenGravesModel", "nextFor", "(I)I"⟩
theorem v_Model_nextFor {own : String} {idx dep : Nat} (h : 3 + 1 ≤ dep) : og_sV own idx og_y_Model_nextFor og_c_Model_nextFor 4 0 3 dep 13 1 := ⟨⟨12, og_sl_Model, og_T_Model, 102, rfl, by decide, rfl⟩, og_w1761, (og_memP (⟨"OpenGravesModel", "nextFor", "(I)I"⟩, 102) (List.mem_of_getElem? (i := 110) (by decide +kernel))), og_w17, og_w1762, ⟨by decide +kernel, by decide +kernel, by decide +kernel⟩, h, by decide⟩
theorem d_Model_nextFor_0 : decode og_c_Model_nextFor 0 = .ok (.iconst (-1), 1) := by decide +kernel
theorem d_Model_nextFor_1 : decode og_c_Model_nextFor 1 = .ok (.istore_n 2, 1) := by decide +kernel
theorem d_Model_nextFor_2 : decode og_c_Model_nextFor 2 = .ok (.iconst 0, 1) := by decide +kernel
theorem d_Model_nextFor_3 : decode og_c_Model_nextFor 3 = .ok (.istore_n 3, 1) := by decide +kernel
theorem d_Model_nextFor_4 : decode og_c_Model_nextFor 4 = .ok (.iload_n 3, 1) := by decide +kernel
theorem d_Model_nextFor_5 : decode og_c_Model_nextFor 5 = .ok (.aload_n 0, 1) := by decide +kernel
theorem d_Model_nextFor_6 : decode og_c_Model_nextFor 6 = .ok (.invokevirtual 378, 3) := by decide +kernel
theorem d_Model_nextFor_9 : decode og_c_Model_nextFor 9 = .ok (.if_icmp .ge 46, 3) := by decide +kernel
theorem d_Model_nextFor_12 : decode og_c_Model_nextFor 12 = .ok (.aload_n 0, 1) := by decide +kernel
theorem d_Model_nextFor_13 : decode og_c_Model_nextFor 13 = .ok (.iload_n 3, 1) := by decide +kernel
theorem d_Model_nextFor_14 : decode og_c_Model_nextFor 14 = .ok (.invokevirtual 390, 3) := by decide +kernel
theorem d_Model_nextFor_17 : decode og_c_Model_nextFor 17 = .ok (.ifCond .eq 32, 3) := by decide +kernel
theorem d_Model_nextFor_20 : decode og_c_Model_nextFor 20 = .ok (.aload_n 0, 1) := by decide +kernel
theorem d_Model_nextFor_21 : decode og_c_Model_nextFor 21 = .ok (.iload_n 1, 1) := by decide +kernel
theorem d_Model_nextFor_22 : decode og_c_Model_nextFor 22 = .ok (.iload_n 3, 1) := by decide +kernel
theorem d_Model_nextFor_23 : decode og_c_Model_nextFor 23 = .ok (.invokevirtual 431, 3) := by decide +kernel
theorem d_Model_nextFor_26 : decode og_c_Model_nextFor 26 = .ok (.ifCond .eq 23, 3) := by decide +kernel
theorem d_Model_nextFor_29 : decode og_c_Model_nextFor 29 = .ok (.iload_n 2, 1) := by decide +kernel
theorem d_Model_nextFor_30 : decode og_c_Model_nextFor 30 = .ok (.iconst (-1), 1) := by decide +kernel
theorem d_Model_nextFor_31 : decode og_c_Model_nextFor 31 = .ok (.if_icmp .eq 16, 3) := by decide +kernel
theorem d_Model_nextFor_34 : decode og_c_Model_nextFor 34 = .ok (.aload_n 0, 1) := by decide +kernel
theorem d_Model_nextFor_35 : decode og_c_Model_nextFor 35 = .ok (.iload_n 3, 1) := by decide +kernel
theorem d_Model_nextFor_36 : decode og_c_Model_nextFor 36 = .ok (.invokevirtual 435, 3) := by decide +kernel
theorem d_Model_nextFor_39 : decode og_c_Model_nextFor 39 = .ok (.aload_n 0, 1) := by decide +kernel
theorem d_Model_nextFor_40 : decode og_c_Model_nextFor 40 = .ok (.iload_n 2, 1) := by decide +kernel
theorem d_Model_nextFor_41 : decode og_c_Model_nextFor 41 = .ok (.invokevirtual 435, 3) := by decide +kernel
theorem d_Model_nextFor_44 : decode og_c_Model_nextFor 44 = .ok (.if_icmp .ge 5, 3) := by decide +kernel
theorem d_Model_nextFor_47 : decode og_c_Model_nextFor 47 = .ok (.iload_n 3, 1) := by decide +kernel
theorem d_Model_nextFor_48 : decode og_c_Model_nextFor 48 = .ok (.istore_n 2, 1) := by decide +kernel
theorem d_Model_nextFor_49 : decode og_c_Model_nextFor 49 = .ok (.iinc 3 1, 3) := by decide +kernel
theorem d_Model_nextFor_52 : decode og_c_Model_nextFor 52 = .ok (.goto (-48), 3) := by decide +kernel
theorem d_Model_nextFor_55 : decode og_c_Model_nextFor 55 = .ok (.iload_n 2, 1) := by decide +kernel
theorem d_Model_nextFor_56 : decode og_c_Model_nextFor 56 = .ok (.ireturn, 1) := by decide +kernel
def m_Model_nextFor : og_Dn := og_den [17, 0] 4 0 (og_seq (og_set 2 (og_k (-1))) (og_cut (og_seq (og_set 3 (og_k 0)) (og_while (og_cc og_rlt (og_loc 3) (og_call m_Model_graveMany [og_loc 0])) (og_if (og_and (og_and (og_cb (og_call m_Model_doesAsk [og_loc 0, og_loc 3])) (og_cb (og_call m_Model_doesFit [og_loc 0, og_loc 1, og_loc 3]))) (og_or (og_cc og_req (og_loc 2) (og_k (-1))) (og_cc og_rlt (og_call m_Model_dueOf [og_loc 0, og_loc 3]) (og_call m_Model_dueOf [og_loc 0, og_loc 2])))) (og_set 2 (og_loc 3)) (og_skip)) (og_inc 3 1))) (og_ret (og_loc 2))))
set_option maxRecDepth 20000 in
theorem ok_Model_nextFor : og_MOK og_y_Model_nextFor og_c_Model_nextFor 4 0 3 [17, 0] m_Model_nextFor := og_method (b := 0) (lt' := []) (by decide +kernel) (by decide) (by decide) (og_sseq (og_istore_n (i := 2) (lt' := [(0, 17), (1, 0), (2, 0)]) (og_iconst (by decide) d_Model_nextFor_0) (by rfl) (by decide) (by decide) d_Model_nextFor_1) (og_scut (og_sdrop (lt' := [(0, 17), (1, 0), (2, 0), (3, 0)]) (lt2 := [(0, 17), (1, 0), (2, 0)]) (og_sseq (og_istore_n (i := 3) (lt' := [(0, 17), (1, 0), (2, 0), (3, 0)]) (og_iconst (by decide) d_Model_nextFor_2) (by rfl) (by decide) (by decide) d_Model_nextFor_3) (og_swhile (T := 12) (F := 55) (cp0 := 49) (og_ccn og_n_lt (og_ige (tgt := 55) (og_iload_n (i := 3) (j := 3) (by rfl) (by rfl) d_Model_nextFor_4) (og_callVi (og_acons (og_aload_n (i := 0) (t := 15) (j := 0) (by rfl) (by rfl) d_Model_nextFor_5) (og_anil)) (by decide) ok_Model_graveMany (v_Model_graveMany (by decide)) og_w1649 d_Model_nextFor_6) d_Model_nextFor_9 (by decide))) (og_sif (T := 47) (F := 49) (og_cand (og_cand (og_cbeq (tgt := 49) (og_callVz (og_acons (og_aload_n (i := 0) (t := 15) (j := 0) (by rfl) (by rfl) d_Model_nextFor_12) (og_acons (og_iload_n (i := 3) (j := 3) (by rfl) (by rfl) d_Model_nextFor_13) (og_anil))) (by decide) ok_Model_doesAsk (v_Model_doesAsk (by decide)) og_w1653 d_Model_nextFor_14) d_Model_nextFor_17 (by decide)) (og_cbeq (tgt := 49) (og_callVz (og_acons (og_aload_n (i := 0) (t := 15) (j := 0) (by rfl) (by rfl) d_Model_nextFor_20) (og_acons (og_iload_n (i := 1) (j := 1) (by rfl) (by rfl) d_Model_nextFor_21) (og_acons (og_iload_n (i := 3) (j := 3) (by rfl) (by rfl) d_Model_nextFor_22) (og_anil)))) (by decide) ok_Model_doesFit (v_Model_doesFit (by decide)) og_w1763 d_Model_nextFor_23) d_Model_nextFor_26 (by decide))) (og_cor (og_ieq (tgt := 47) (og_iload_n (i := 2) (j := 2) (by rfl) (by rfl) d_Model_nextFor_29) (og_iconst (by decide) d_Model_nextFor_30) d_Model_nextFor_31 (by decide)) (og_ccn og_n_lt (og_ige (tgt := 49) (og_callVi (og_acons (og_aload_n (i := 0) (t := 15) (j := 0) (by rfl) (by rfl) d_Model_nextFor_34) (og_acons (og_iload_n (i := 3) (j := 3) (by rfl) (by rfl) d_Model_nextFor_35) (og_anil))) (by decide) ok_Model_dueOf (v_Model_dueOf (by decide)) og_w1682 d_Model_nextFor_36) (og_callVi (og_acons (og_aload_n (i := 0) (t := 15) (j := 0) (by rfl) (by rfl) d_Model_nextFor_39) (og_acons (og_iload_n (i := 2) (j := 2) (by rfl) (by rfl) d_Model_nextFor_40) (og_anil))) (by decide) ok_Model_dueOf (v_Model_dueOf (by decide)) og_w1682 d_Model_nextFor_41) d_Model_nextFor_44 (by decide))))) (og_istore_n (i := 2) (lt' := [(0, 17), (1, 0), (2, 0), (3, 0)]) (og_iload_n (i := 3) (j := 3) (by rfl) (by rfl) d_Model_nextFor_47) (by rfl) (by decide) (by decide) d_Model_nextFor_48) (og_sskip)) (og_gS (b' := 4) (og_iinc (j := 3) (lt' := [(0, 17), (1, 0), (2, 0), (3, 0)]) (by rfl) (by decide) (by decide) d_Model_nextFor_49) d_Model_nextFor_52 (by decide)))) (by decide)) (og_sreti (og_iload_n (i := 2) (j := 2) (by rfl) (by rfl) d_Model_nextFor_55) d_Model_nextFor_56))) (fun h => by cases h)
abbrev og_c_Model_goesInto : ByteArray := prog_14_method_50_code
abbrev og_y_Model_goesInto : MethodName := ⟨"OpenGravesModel", "goesInto", "(III)V"⟩
theorem v_Model_goesInto {own : String} {idx dep : Nat} (h : 1 + 1 ≤ dep) : og_sV own idx og_y_Model_goesInto og_c_Model_goesInto 5 2 1 dep 13 3 := ⟨⟨12, og_sl_Model, og_T_Model, 102, rfl, by decide, rfl⟩, og_w1802, (og_memP (⟨"OpenGravesModel", "goesInto", "(III)V"⟩, 102) (List.mem_of_getElem? (i := 118) (by decide +kernel))), og_w17, og_w1803, ⟨by decide +kernel, by decide +kernel, by decide +kernel⟩, h, by decide⟩
theorem d_Model_goesInto_0 : decode og_c_Model_goesInto 0 = .ok (.aload_n 0, 1) := by decide +kernel
theorem d_Model_goesInto_1 : decode og_c_Model_goesInto 1 = .ok (.getfield 124, 3) := by decide +kernel
theorem d_Model_goesInto_4 : decode og_c_Model_goesInto 4 = .ok (.bipush 19, 2) := by decide +kernel
theorem d_Model_goesInto_6 : decode og_c_Model_goesInto 6 = .ok (.iconst 3, 1) := by decide +kernel
theorem d_Model_goesInto_7 : decode og_c_Model_goesInto 7 = .ok (.iload_n 1, 1) := by decide +kernel
theorem d_Model_goesInto_8 : decode og_c_Model_goesInto 8 = .ok (.imul, 1) := by decide +kernel
theorem d_Model_goesInto_9 : decode og_c_Model_goesInto 9 = .ok (.iadd, 1) := by decide +kernel
theorem d_Model_goesInto_10 : decode og_c_Model_goesInto 10 = .ok (.iconst 0, 1) := by decide +kernel
theorem d_Model_goesInto_11 : decode og_c_Model_goesInto 11 = .ok (.iastore, 1) := by decide +kernel
theorem d_Model_goesInto_12 : decode og_c_Model_goesInto 12 = .ok (.iload_n 2, 1) := by decide +kernel
theorem d_Model_goesInto_13 : decode og_c_Model_goesInto 13 = .ok (.iconst (-1), 1) := by decide +kernel
theorem d_Model_goesInto_14 : decode og_c_Model_goesInto 14 = .ok (.if_icmp .eq 14, 3) := by decide +kernel
theorem d_Model_goesInto_17 : decode og_c_Model_goesInto 17 = .ok (.aload_n 0, 1) := by decide +kernel
theorem d_Model_goesInto_18 : decode og_c_Model_goesInto 18 = .ok (.getfield 124, 3) := by decide +kernel
theorem d_Model_goesInto_21 : decode og_c_Model_goesInto 21 = .ok (.iconst 3, 1) := by decide +kernel
theorem d_Model_goesInto_22 : decode og_c_Model_goesInto 22 = .ok (.iconst 3, 1) := by decide +kernel
theorem d_Model_goesInto_23 : decode og_c_Model_goesInto 23 = .ok (.iload_n 2, 1) := by decide +kernel
theorem d_Model_goesInto_24 : decode og_c_Model_goesInto 24 = .ok (.imul, 1) := by decide +kernel
theorem d_Model_goesInto_25 : decode og_c_Model_goesInto 25 = .ok (.iadd, 1) := by decide +kernel
theorem d_Model_goesInto_26 : decode og_c_Model_goesInto 26 = .ok (.iload_n 1, 1) := by decide +kernel
theorem d_Model_goesInto_27 : decode og_c_Model_goesInto 27 = .ok (.iastore, 1) := by decide +kernel
theorem d_Model_goesInto_28 : decode og_c_Model_goesInto 28 = .ok (.aload_n 0, 1) := by decide +kernel
theorem d_Model_goesInto_29 : decode og_c_Model_goesInto 29 = .ok (.getfield 438, 3) := by decide +kernel
theorem d_Model_goesInto_32 : decode og_c_Model_goesInto 32 = .ok (.ifCond .eq 4, 3) := by decide +kernel
theorem d_Model_goesInto_35 : decode og_c_Model_goesInto 35 = .ok (.return_, 1) := by decide +kernel
theorem d_Model_goesInto_36 : decode og_c_Model_goesInto 36 = .ok (.aload_n 0, 1) := by decide +kernel
theorem d_Model_goesInto_37 : decode og_c_Model_goesInto 37 = .ok (.getfield 124, 3) := by decide +kernel
theorem d_Model_goesInto_40 : decode og_c_Model_goesInto 40 = .ok (.bipush 43, 2) := by decide +kernel
theorem d_Model_goesInto_42 : decode og_c_Model_goesInto 42 = .ok (.iaload, 1) := by decide +kernel
theorem d_Model_goesInto_43 : decode og_c_Model_goesInto 43 = .ok (.bipush 40, 2) := by decide +kernel
theorem d_Model_goesInto_45 : decode og_c_Model_goesInto 45 = .ok (.if_icmp .ne 40, 3) := by decide +kernel
theorem d_Model_goesInto_48 : decode og_c_Model_goesInto 48 = .ok (.bipush 44, 2) := by decide +kernel
theorem d_Model_goesInto_50 : decode og_c_Model_goesInto 50 = .ok (.istore 4, 2) := by decide +kernel
theorem d_Model_goesInto_52 : decode og_c_Model_goesInto 52 = .ok (.iload 4, 2) := by decide +kernel
theorem d_Model_goesInto_54 : decode og_c_Model_goesInto 54 = .ok (.sipush 200, 3) := by decide +kernel
theorem d_Model_goesInto_57 : decode og_c_Model_goesInto 57 = .ok (.if_icmp .ge 25, 3) := by decide +kernel
theorem d_Model_goesInto_60 : decode og_c_Model_goesInto 60 = .ok (.aload_n 0, 1) := by decide +kernel
theorem d_Model_goesInto_61 : decode og_c_Model_goesInto 61 = .ok (.getfield 124, 3) := by decide +kernel
theorem d_Model_goesInto_64 : decode og_c_Model_goesInto 64 = .ok (.iload 4, 2) := by decide +kernel
theorem d_Model_goesInto_66 : decode og_c_Model_goesInto 66 = .ok (.aload_n 0, 1) := by decide +kernel
theorem d_Model_goesInto_67 : decode og_c_Model_goesInto 67 = .ok (.getfield 124, 3) := by decide +kernel
theorem d_Model_goesInto_70 : decode og_c_Model_goesInto 70 = .ok (.iload 4, 2) := by decide +kernel
theorem d_Model_goesInto_72 : decode og_c_Model_goesInto 72 = .ok (.iconst 4, 1) := by decide +kernel
theorem d_Model_goesInto_73 : decode og_c_Model_goesInto 73 = .ok (.iadd, 1) := by decide +kernel
theorem d_Model_goesInto_74 : decode og_c_Model_goesInto 74 = .ok (.iaload, 1) := by decide +kernel
theorem d_Model_goesInto_75 : decode og_c_Model_goesInto 75 = .ok (.iastore, 1) := by decide +kernel
theorem d_Model_goesInto_76 : decode og_c_Model_goesInto 76 = .ok (.iinc 4 1, 3) := by decide +kernel
theorem d_Model_goesInto_79 : decode og_c_Model_goesInto 79 = .ok (.goto (-27), 3) := by decide +kernel
theorem d_Model_goesInto_82 : decode og_c_Model_goesInto 82 = .ok (.goto 14, 3) := by decide +kernel
theorem d_Model_goesInto_85 : decode og_c_Model_goesInto 85 = .ok (.aload_n 0, 1) := by decide +kernel
theorem d_Model_goesInto_86 : decode og_c_Model_goesInto 86 = .ok (.getfield 124, 3) := by decide +kernel
theorem d_Model_goesInto_89 : decode og_c_Model_goesInto 89 = .ok (.bipush 43, 2) := by decide +kernel
theorem d_Model_goesInto_91 : decode og_c_Model_goesInto 91 = .ok (.dup2, 1) := by decide +kernel
theorem d_Model_goesInto_92 : decode og_c_Model_goesInto 92 = .ok (.iaload, 1) := by decide +kernel
theorem d_Model_goesInto_93 : decode og_c_Model_goesInto 93 = .ok (.iconst 1, 1) := by decide +kernel
theorem d_Model_goesInto_94 : decode og_c_Model_goesInto 94 = .ok (.iadd, 1) := by decide +kernel
theorem d_Model_goesInto_95 : decode og_c_Model_goesInto 95 = .ok (.iastore, 1) := by decide +kernel
theorem d_Model_goesInto_96 : decode og_c_Model_goesInto 96 = .ok (.bipush 44, 2) := by decide +kernel
theorem d_Model_goesInto_98 : decode og_c_Model_goesInto 98 = .ok (.iconst 4, 1) := by decide +kernel
theorem d_Model_goesInto_99 : decode og_c_Model_goesInto 99 = .ok (.aload_n 0, 1) := by decide +kernel
theorem d_Model_goesInto_100 : decode og_c_Model_goesInto 100 = .ok (.getfield 124, 3) := by decide +kernel
theorem d_Model_goesInto_103 : decode og_c_Model_goesInto 103 = .ok (.bipush 43, 2) := by decide +kernel
theorem d_Model_goesInto_105 : decode og_c_Model_goesInto 105 = .ok (.iaload, 1) := by decide +kernel
theorem d_Model_goesInto_106 : decode og_c_Model_goesInto 106 = .ok (.imul, 1) := by decide +kernel
theorem d_Model_goesInto_107 : decode og_c_Model_goesInto 107 = .ok (.iadd, 1) := by decide +kernel
theorem d_Model_goesInto_108 : decode og_c_Model_goesInto 108 = .ok (.iconst 4, 1) := by decide +kernel
theorem d_Model_goesInto_109 : decode og_c_Model_goesInto 109 = .ok (.isub, 1) := by decide +kernel
theorem d_Model_goesInto_110 : decode og_c_Model_goesInto 110 = .ok (.istore 4, 2) := by decide +kernel
theorem d_Model_goesInto_112 : decode og_c_Model_goesInto 112 = .ok (.aload_n 0, 1) := by decide +kernel
theorem d_Model_goesInto_113 : decode og_c_Model_goesInto 113 = .ok (.getfield 124, 3) := by decide +kernel
theorem d_Model_goesInto_116 : decode og_c_Model_goesInto 116 = .ok (.iload 4, 2) := by decide +kernel
theorem d_Model_goesInto_118 : decode og_c_Model_goesInto 118 = .ok (.aload_n 0, 1) := by decide +kernel
theorem d_Model_goesInto_119 : decode og_c_Model_goesInto 119 = .ok (.getfield 124, 3) := by decide +kernel
theorem d_Model_goesInto_122 : decode og_c_Model_goesInto 122 = .ok (.iconst 0, 1) := by decide +kernel
theorem d_Model_goesInto_123 : decode og_c_Model_goesInto 123 = .ok (.iaload, 1) := by decide +kernel
theorem d_Model_goesInto_124 : decode og_c_Model_goesInto 124 = .ok (.iastore, 1) := by decide +kernel
theorem d_Model_goesInto_125 : decode og_c_Model_goesInto 125 = .ok (.aload_n 0, 1) := by decide +kernel
theorem d_Model_goesInto_126 : decode og_c_Model_goesInto 126 = .ok (.getfield 124, 3) := by decide +kernel
theorem d_Model_goesInto_129 : decode og_c_Model_goesInto 129 = .ok (.iload 4, 2) := by decide +kernel
theorem d_Model_goesInto_131 : decode og_c_Model_goesInto 131 = .ok (.iconst 1, 1) := by decide +kernel
theorem d_Model_goesInto_132 : decode og_c_Model_goesInto 132 = .ok (.iadd, 1) := by decide +kernel
theorem d_Model_goesInto_133 : decode og_c_Model_goesInto 133 = .ok (.iload_n 1, 1) := by decide +kernel
theorem d_Model_goesInto_134 : decode og_c_Model_goesInto 134 = .ok (.iastore, 1) := by decide +kernel
theorem d_Model_goesInto_135 : decode og_c_Model_goesInto 135 = .ok (.aload_n 0, 1) := by decide +kernel
theorem d_Model_goesInto_136 : decode og_c_Model_goesInto 136 = .ok (.getfield 124, 3) := by decide +kernel
theorem d_Model_goesInto_139 : decode og_c_Model_goesInto 139 = .ok (.iload 4, 2) := by decide +kernel
theorem d_Model_goesInto_141 : decode og_c_Model_goesInto 141 = .ok (.iconst 2, 1) := by decide +kernel
theorem d_Model_goesInto_142 : decode og_c_Model_goesInto 142 = .ok (.iadd, 1) := by decide +kernel
theorem d_Model_goesInto_143 : decode og_c_Model_goesInto 143 = .ok (.iload_n 2, 1) := by decide +kernel
theorem d_Model_goesInto_144 : decode og_c_Model_goesInto 144 = .ok (.iastore, 1) := by decide +kernel
theorem d_Model_goesInto_145 : decode og_c_Model_goesInto 145 = .ok (.aload_n 0, 1) := by decide +kernel
theorem d_Model_goesInto_146 : decode og_c_Model_goesInto 146 = .ok (.getfield 124, 3) := by decide +kernel
theorem d_Model_goesInto_149 : decode og_c_Model_goesInto 149 = .ok (.iload 4, 2) := by decide +kernel
theorem d_Model_goesInto_151 : decode og_c_Model_goesInto 151 = .ok (.iconst 3, 1) := by decide +kernel
theorem d_Model_goesInto_152 : decode og_c_Model_goesInto 152 = .ok (.iadd, 1) := by decide +kernel
theorem d_Model_goesInto_153 : decode og_c_Model_goesInto 153 = .ok (.iload_n 3, 1) := by decide +kernel
theorem d_Model_goesInto_154 : decode og_c_Model_goesInto 154 = .ok (.iastore, 1) := by decide +kernel
theorem d_Model_goesInto_155 : decode og_c_Model_goesInto 155 = .ok (.return_, 1) := by decide +kernel
def m_Model_goesInto : og_Dn := og_den [17, 0, 0, 0] 5 2 (og_seq (og_ast 204 (og_fix (fun _ => 1037) (og_loc 0)) (og_add (og_k 19) (og_mul (og_k 3) (og_loc 1))) (og_k 0)) (og_cut (og_if (og_cc og_rne (og_loc 2) (og_k (-1))) (og_ast 204 (og_fix (fun _ => 1037) (og_loc 0)) (og_add (og_k 3) (og_mul (og_k 3) (og_loc 2))) (og_loc 1)) (og_skip)) (og_seq (og_if (og_cb (og_get 53 (og_loc 0))) (og_retv) (og_skip)) (og_cut (og_if (og_cc og_req (og_ald 204 (og_fix (fun _ => 1037) (og_loc 0)) (og_k 43)) (og_k 40)) (og_seq (og_set 4 (og_k 44)) (og_while (og_cc og_rlt (og_loc 4) (og_k 200)) (og_ast 204 (og_fix (fun _ => 1037) (og_loc 0)) (og_loc 4) (og_ald 204 (og_fix (fun _ => 1037) (og_loc 0)) (og_add (og_loc 4) (og_k 4)))) (og_inc 4 1))) (og_aop og_padd 204 (og_fix (fun _ => 1037) (og_loc 0)) (og_k 43) (og_k 1))) (og_seq (og_set 4 (og_sub (og_add (og_k 44) (og_mul (og_k 4) (og_ald 204 (og_fix (fun _ => 1037) (og_loc 0)) (og_k 43)))) (og_k 4))) (og_seq (og_ast 204 (og_fix (fun _ => 1037) (og_loc 0)) (og_loc 4) (og_ald 204 (og_fix (fun _ => 1037) (og_loc 0)) (og_k 0))) (og_seq (og_ast 204 (og_fix (fun _ => 1037) (og_loc 0)) (og_add (og_loc 4) (og_k 1)) (og_loc 1)) (og_seq (og_ast 204 (og_fix (fun _ => 1037) (og_loc 0)) (og_add (og_loc 4) (og_k 2)) (og_loc 2)) (og_ast 204 (og_fix (fun _ => 1037) (og_loc 0)) (og_add (og_loc 4) (og_k 3)) (og_loc 3))))))))))
set_option maxRecDepth 20000 in
theorem ok_Model_goesInto : og_MOK og_y_Model_goesInto og_c_Model_goesInto 5 2 1 [17, 0, 0, 0] m_Model_goesInto := og_method (b := 155) (lt' := [(0, 17), (1, 0), (2, 0), (3, 0)]) (by decide +kernel) (by decide) (by decide) (og_sdrop (lt' := [(0, 17), (1, 0), (2, 0), (3, 0), (4, 0)]) (lt2 := [(0, 17), (1, 0), (2, 0), (3, 0)]) (og_sseq (og_iastore (N := 204) (og_f_Model_now (og_aload_n (i := 0) (t := 15) (j := 0) (by rfl) (by rfl) d_Model_goesInto_0) og_w1192 d_Model_goesInto_1) (by rfl) (og_iadd (og_bipush (by decide) d_Model_goesInto_4) (og_imul (og_iconst (by decide) d_Model_goesInto_6) (og_iload_n (i := 1) (j := 1) (by rfl) (by rfl) d_Model_goesInto_7) d_Model_goesInto_8) d_Model_goesInto_9) (og_iconst (by decide) d_Model_goesInto_10) d_Model_goesInto_11) (og_scut (og_sif (T := 17) (F := 28) (og_ccn og_n_ne (og_ieq (tgt := 28) (og_iload_n (i := 2) (j := 2) (by rfl) (by rfl) d_Model_goesInto_12) (og_iconst (by decide) d_Model_goesInto_13) d_Model_goesInto_14 (by decide))) (og_iastore (N := 204) (og_f_Model_now (og_aload_n (i := 0) (t := 15) (j := 0) (by rfl) (by rfl) d_Model_goesInto_17) og_w1192 d_Model_goesInto_18) (by rfl) (og_iadd (og_iconst (by decide) d_Model_goesInto_21) (og_imul (og_iconst (by decide) d_Model_goesInto_22) (og_iload_n (i := 2) (j := 2) (by rfl) (by rfl) d_Model_goesInto_23) d_Model_goesInto_24) d_Model_goesInto_25) (og_iload_n (i := 1) (j := 1) (by rfl) (by rfl) d_Model_goesInto_26) d_Model_goesInto_27) (og_sskip)) (og_sseq (og_sif (T := 35) (F := 36) (og_cbeq (tgt := 36) (og_f_Model_isThought (og_aload_n (i := 0) (t := 15) (j := 0) (by rfl) (by rfl) d_Model_goesInto_28) og_w1196 d_Model_goesInto_29) d_Model_goesInto_32 (by decide)) (og_sretv d_Model_goesInto_35) (og_sskip)) (og_scut (og_sif (T := 48) (F := 85) (og_ccn og_n_eq (og_ine (tgt := 85) (og_iald (N := 204) (og_f_Model_now (og_aload_n (i := 0) (t := 15) (j := 0) (by rfl) (by rfl) d_Model_goesInto_36) og_w1192 d_Model_goesInto_37) (by rfl) (og_bipush (by decide) d_Model_goesInto_40) d_Model_goesInto_42) (og_bipush (by decide) d_Model_goesInto_43) d_Model_goesInto_45 (by decide))) (og_sdrop (lt' := [(0, 17), (1, 0), (2, 0), (3, 0), (4, 0)]) (lt2 := [(0, 17), (1, 0), (2, 0), (3, 0)]) (og_sseq (og_istore (i := 4) (lt' := [(0, 17), (1, 0), (2, 0), (3, 0), (4, 0)]) (og_bipush (by decide) d_Model_goesInto_48) (by decide) (by decide) d_Model_goesInto_50) (og_swhile (T := 60) (F := 96) (cp0 := 76) (og_gF (F' := 96) (og_ccn og_n_lt (og_ige (tgt := 82) (og_iload (i := 4) (j := 4) (by rfl) d_Model_goesInto_52) (og_sipush (by decide) d_Model_goesInto_54) d_Model_goesInto_57 (by decide))) d_Model_goesInto_82 (by decide)) (og_iastore (N := 204) (og_f_Model_now (og_aload_n (i := 0) (t := 15) (j := 0) (by rfl) (by rfl) d_Model_goesInto_60) og_w1192 d_Model_goesInto_61) (by rfl) (og_iload (i := 4) (j := 4) (by rfl) d_Model_goesInto_64) (og_iald (N := 204) (og_f_Model_now (og_aload_n (i := 0) (t := 15) (j := 0) (by rfl) (by rfl) d_Model_goesInto_66) og_w1192 d_Model_goesInto_67) (by rfl) (og_iadd (og_iload (i := 4) (j := 4) (by rfl) d_Model_goesInto_70) (og_iconst (by decide) d_Model_goesInto_72) d_Model_goesInto_73) d_Model_goesInto_74) d_Model_goesInto_75) (og_gS (b' := 52) (og_iinc (j := 4) (lt' := [(0, 17), (1, 0), (2, 0), (3, 0), (4, 0)]) (by rfl) (by decide) (by decide) d_Model_goesInto_76) d_Model_goesInto_79 (by decide)))) (by decide)) (og_aadd (N := 204) (og_f_Model_now (og_aload_n (i := 0) (t := 15) (j := 0) (by rfl) (by rfl) d_Model_goesInto_85) og_w1192 d_Model_goesInto_86) (by rfl) (og_bipush (by decide) d_Model_goesInto_89) d_Model_goesInto_91 d_Model_goesInto_92 (og_iconst (by decide) d_Model_goesInto_93) d_Model_goesInto_94 d_Model_goesInto_95)) (og_sseq (og_istore (i := 4) (lt' := [(0, 17), (1, 0), (2, 0), (3, 0), (4, 0)]) (og_isub (og_iadd (og_bipush (by decide) d_Model_goesInto_96) (og_imul (og_iconst (by decide) d_Model_goesInto_98) (og_iald (N := 204) (og_f_Model_now (og_aload_n (i := 0) (t := 15) (j := 0) (by rfl) (by rfl) d_Model_goesInto_99) og_w1192 d_Model_goesInto_100) (by rfl) (og_bipush (by decide) d_Model_goesInto_103) d_Model_goesInto_105) d_Model_goesInto_106) d_Model_goesInto_107) (og_iconst (by decide) d_Model_goesInto_108) d_Model_goesInto_109) (by decide) (by decide) d_Model_goesInto_110) (og_sseq (og_iastore (N := 204) (og_f_Model_now (og_aload_n (i := 0) (t := 15) (j := 0) (by rfl) (by rfl) d_Model_goesInto_112) og_w1192 d_Model_goesInto_113) (by rfl) (og_iload (i := 4) (j := 4) (by rfl) d_Model_goesInto_116) (og_iald (N := 204) (og_f_Model_now (og_aload_n (i := 0) (t := 15) (j := 0) (by rfl) (by rfl) d_Model_goesInto_118) og_w1192 d_Model_goesInto_119) (by rfl) (og_iconst (by decide) d_Model_goesInto_122) d_Model_goesInto_123) d_Model_goesInto_124) (og_sseq (og_iastore (N := 204) (og_f_Model_now (og_aload_n (i := 0) (t := 15) (j := 0) (by rfl) (by rfl) d_Model_goesInto_125) og_w1192 d_Model_goesInto_126) (by rfl) (og_iadd (og_iload (i := 4) (j := 4) (by rfl) d_Model_goesInto_129) (og_iconst (by decide) d_Model_goesInto_131) d_Model_goesInto_132) (og_iload_n (i := 1) (j := 1) (by rfl) (by rfl) d_Model_goesInto_133) d_Model_goesInto_134) (og_sseq (og_iastore (N := 204) (og_f_Model_now (og_aload_n (i := 0) (t := 15) (j := 0) (by rfl) (by rfl) d_Model_goesInto_135) og_w1192 d_Model_goesInto_136) (by rfl) (og_iadd (og_iload (i := 4) (j := 4) (by rfl) d_Model_goesInto_139) (og_iconst (by decide) d_Model_goesInto_141) d_Model_goesInto_142) (og_iload_n (i := 2) (j := 2) (by rfl) (by rfl) d_Model_goesInto_143) d_Model_goesInto_144) (og_iastore (N := 204) (og_f_Model_now (og_aload_n (i := 0) (t := 15) (j := 0) (by rfl) (by rfl) d_Model_goesInto_145) og_w1192 d_Model_goesInto_146) (by rfl) (og_iadd (og_iload (i := 4) (j := 4) (by rfl) d_Model_goesInto_149) (og_iconst (by decide) d_Model_goesInto_151) d_Model_goesInto_152) (og_iload_n (i := 3) (j := 3) (by rfl) (by rfl) d_Model_goesInto_153) d_Model_goesInto_154))))))))) (by decide)) (fun _ => d_Model_goesInto_155)
abbrev og_c_Model_comes : ByteArray := prog_14_method_51_code
abbrev og_y_Model_comes : MethodName := ⟨"OpenGravesModel", "comes", "(I)V"⟩
theorem v_Model_comes {own : String} {idx dep : Nat} (h : 7 + 1 ≤ dep) : og_sV own idx og_y_Model_comes og_c_Model_comes 3 2 7 dep 13 1 := ⟨⟨12, og_sl_Model, og_T_Model, 102, rfl, by decide, rfl⟩, og_w1794, (og_memP (⟨"OpenGravesModel", "comes", "(I)V"⟩, 102) (List.mem_of_getElem? (i := 116) (by decide +kernel))), og_w17, og_w1795, ⟨by decide +kernel, by decide +kernel, by decide +kernel⟩, h, by decide⟩
theorem d_Model_comes_0 : decode og_c_Model_comes 0 = .ok (.aload_n 0, 1) := by decide +kernel
theorem d_Model_comes_1 : decode og_c_Model_comes 1 = .ok (.iload_n 1, 1) := by decide +kernel
theorem d_Model_comes_2 : decode og_c_Model_comes 2 = .ok (.invokevirtual 393, 3) := by decide +kernel
theorem d_Model_comes_5 : decode og_c_Model_comes 5 = .ok (.ifCond .eq 11, 3) := by decide +kernel
theorem d_Model_comes_8 : decode og_c_Model_comes 8 = .ok (.aload_n 0, 1) := by decide +kernel
theorem d_Model_comes_9 : decode og_c_Model_comes 9 = .ok (.iload_n 1, 1) := by decide +kernel
theorem d_Model_comes_10 : decode og_c_Model_comes 10 = .ok (.invokevirtual 442, 3) := by decide +kernel
theorem d_Model_comes_13 : decode og_c_Model_comes 13 = .ok (.ifCond .ne 4, 3) := by decide +kernel
theorem d_Model_comes_16 : decode og_c_Model_comes 16 = .ok (.return_, 1) := by decide +kernel
theorem d_Model_comes_17 : decode og_c_Model_comes 17 = .ok (.aload_n 0, 1) := by decide +kernel
theorem d_Model_comes_18 : decode og_c_Model_comes 18 = .ok (.iload_n 1, 1) := by decide +kernel
theorem d_Model_comes_19 : decode og_c_Model_comes 19 = .ok (.invokevirtual 445, 3) := by decide +kernel
theorem d_Model_comes_22 : decode og_c_Model_comes 22 = .ok (.istore_n 2, 1) := by decide +kernel
theorem d_Model_comes_23 : decode og_c_Model_comes 23 = .ok (.iload_n 2, 1) := by decide +kernel
theorem d_Model_comes_24 : decode og_c_Model_comes 24 = .ok (.iconst (-1), 1) := by decide +kernel
theorem d_Model_comes_25 : decode og_c_Model_comes 25 = .ok (.if_icmp .eq 10, 3) := by decide +kernel
theorem d_Model_comes_28 : decode og_c_Model_comes 28 = .ok (.aload_n 0, 1) := by decide +kernel
theorem d_Model_comes_29 : decode og_c_Model_comes 29 = .ok (.iload_n 1, 1) := by decide +kernel
theorem d_Model_comes_30 : decode og_c_Model_comes 30 = .ok (.iload_n 2, 1) := by decide +kernel
theorem d_Model_comes_31 : decode og_c_Model_comes 31 = .ok (.iconst 0, 1) := by decide +kernel
theorem d_Model_comes_32 : decode og_c_Model_comes 32 = .ok (.invokevirtual 448, 3) := by decide +kernel
theorem d_Model_comes_35 : decode og_c_Model_comes 35 = .ok (.return_, 1) := by decide +kernel
def m_Model_comes : og_Dn := og_den [17, 0] 3 2 (og_seq (og_if (og_or (og_not (og_cb (og_call m_Model_isAlive [og_loc 0, og_loc 1]))) (og_not (og_cb (og_call m_Model_doesCome [og_loc 0, og_loc 1])))) (og_retv) (og_skip)) (og_seq (og_set 2 (og_call m_Model_nextFor [og_loc 0, og_loc 1])) (og_if (og_cc og_rne (og_loc 2) (og_k (-1))) (og_exp (og_call m_Model_goesInto [og_loc 0, og_loc 1, og_loc 2, og_k 0])) (og_skip))))
set_option maxRecDepth 20000 in
theorem ok_Model_comes : og_MOK og_y_Model_comes og_c_Model_comes 3 2 7 [17, 0] m_Model_comes := og_method (b := 35) (lt' := [(0, 17), (1, 0)]) (by decide +kernel) (by decide) (by decide) (og_sdrop (lt' := [(0, 17), (1, 0), (2, 0)]) (lt2 := [(0, 17), (1, 0)]) (og_sseq (og_sif (T := 16) (F := 17) (og_cor (og_cnot (og_cbeq (tgt := 16) (og_callVz (og_acons (og_aload_n (i := 0) (t := 15) (j := 0) (by rfl) (by rfl) d_Model_comes_0) (og_acons (og_iload_n (i := 1) (j := 1) (by rfl) (by rfl) d_Model_comes_1) (og_anil))) (by decide) ok_Model_isAlive (v_Model_isAlive (by decide)) og_w1641 d_Model_comes_2) d_Model_comes_5 (by decide))) (og_cnot (og_cbne (tgt := 17) (og_callVz (og_acons (og_aload_n (i := 0) (t := 15) (j := 0) (by rfl) (by rfl) d_Model_comes_8) (og_acons (og_iload_n (i := 1) (j := 1) (by rfl) (by rfl) d_Model_comes_9) (og_anil))) (by decide) ok_Model_doesCome (v_Model_doesCome (by decide)) og_w1796 d_Model_comes_10) d_Model_comes_13 (by decide)))) (og_sretv d_Model_comes_16) (og_sskip)) (og_sseq (og_istore_n (i := 2) (lt' := [(0, 17), (1, 0), (2, 0)]) (og_callVi (og_acons (og_aload_n (i := 0) (t := 15) (j := 0) (by rfl) (by rfl) d_Model_comes_17) (og_acons (og_iload_n (i := 1) (j := 1) (by rfl) (by rfl) d_Model_comes_18) (og_anil))) (by decide) ok_Model_nextFor (v_Model_nextFor (by decide)) og_w1759 d_Model_comes_19) (by rfl) (by decide) (by decide) d_Model_comes_22) (og_sif (T := 28) (F := 35) (og_ccn og_n_ne (og_ieq (tgt := 35) (og_iload_n (i := 2) (j := 2) (by rfl) (by rfl) d_Model_comes_23) (og_iconst (by decide) d_Model_comes_24) d_Model_comes_25 (by decide))) (og_callVv (og_acons (og_aload_n (i := 0) (t := 15) (j := 0) (by rfl) (by rfl) d_Model_comes_28) (og_acons (og_iload_n (i := 1) (j := 1) (by rfl) (by rfl) d_Model_comes_29) (og_acons (og_iload_n (i := 2) (j := 2) (by rfl) (by rfl) d_Model_comes_30) (og_acons (og_iconst (by decide) d_Model_comes_31) (og_anil))))) ok_Model_goesInto (v_Model_goesInto (by decide)) og_w1800 d_Model_comes_32) (og_sskip)))) (by decide)) (fun _ => d_Model_comes_35)
abbrev og_c_Model_graveTakes : ByteArray := prog_14_method_52_code
abbrev og_y_Model_graveTakes : MethodName := ⟨"OpenGravesModel", "graveTakes", "(I)V"⟩
theorem v_Model_graveTakes {own : String} {idx dep : Nat} (h : 7 + 1 ≤ dep) : og_sV own idx og_y_Model_graveTakes og_c_Model_graveTakes 8 2 7 dep 13 1 := ⟨⟨12, og_sl_Model, og_T_Model, 102, rfl, by decide, rfl⟩, og_w1806, (og_memP (⟨"OpenGravesModel", "graveTakes", "(I)V"⟩, 102) (List.mem_of_getElem? (i := 119) (by decide +kernel))), og_w17, og_w1807, ⟨by decide +kernel, by decide +kernel, by decide +kernel⟩, h, by decide⟩
theorem d_Model_graveTakes_0 : decode og_c_Model_graveTakes 0 = .ok (.aload_n 0, 1) := by decide +kernel
theorem d_Model_graveTakes_1 : decode og_c_Model_graveTakes 1 = .ok (.iload_n 1, 1) := by decide +kernel
theorem d_Model_graveTakes_2 : decode og_c_Model_graveTakes 2 = .ok (.invokevirtual 390, 3) := by decide +kernel
theorem d_Model_graveTakes_5 : decode og_c_Model_graveTakes 5 = .ok (.ifCond .eq 11, 3) := by decide +kernel
theorem d_Model_graveTakes_8 : decode og_c_Model_graveTakes 8 = .ok (.aload_n 0, 1) := by decide +kernel
theorem d_Model_graveTakes_9 : decode og_c_Model_graveTakes 9 = .ok (.iload_n 1, 1) := by decide +kernel
theorem d_Model_graveTakes_10 : decode og_c_Model_graveTakes 10 = .ok (.invokevirtual 435, 3) := by decide +kernel
theorem d_Model_graveTakes_13 : decode og_c_Model_graveTakes 13 = .ok (.ifCond .le 4, 3) := by decide +kernel
theorem d_Model_graveTakes_16 : decode og_c_Model_graveTakes 16 = .ok (.return_, 1) := by decide +kernel
theorem d_Model_graveTakes_17 : decode og_c_Model_graveTakes 17 = .ok (.iconst (-1), 1) := by decide +kernel
theorem d_Model_graveTakes_18 : decode og_c_Model_graveTakes 18 = .ok (.istore_n 2, 1) := by decide +kernel
theorem d_Model_graveTakes_19 : decode og_c_Model_graveTakes 19 = .ok (.lconst 0, 1) := by decide +kernel
theorem d_Model_graveTakes_20 : decode og_c_Model_graveTakes 20 = .ok (.lstore_n 3, 1) := by decide +kernel
theorem d_Model_graveTakes_21 : decode og_c_Model_graveTakes 21 = .ok (.iconst 0, 1) := by decide +kernel
theorem d_Model_graveTakes_22 : decode og_c_Model_graveTakes 22 = .ok (.istore 5, 2) := by decide +kernel
theorem d_Model_graveTakes_24 : decode og_c_Model_graveTakes 24 = .ok (.iload 5, 2) := by decide +kernel
theorem d_Model_graveTakes_26 : decode og_c_Model_graveTakes 26 = .ok (.aload_n 0, 1) := by decide +kernel
theorem d_Model_graveTakes_27 : decode og_c_Model_graveTakes 27 = .ok (.invokevirtual 381, 3) := by decide +kernel
theorem d_Model_graveTakes_30 : decode og_c_Model_graveTakes 30 = .ok (.if_icmp .ge 60, 3) := by decide +kernel
theorem d_Model_graveTakes_33 : decode og_c_Model_graveTakes 33 = .ok (.aload_n 0, 1) := by decide +kernel
theorem d_Model_graveTakes_34 : decode og_c_Model_graveTakes 34 = .ok (.iload 5, 2) := by decide +kernel
theorem d_Model_graveTakes_36 : decode og_c_Model_graveTakes 36 = .ok (.invokevirtual 393, 3) := by decide +kernel
theorem d_Model_graveTakes_39 : decode og_c_Model_graveTakes 39 = .ok (.ifCond .eq 45, 3) := by decide +kernel
theorem d_Model_graveTakes_42 : decode og_c_Model_graveTakes 42 = .ok (.aload_n 0, 1) := by decide +kernel
theorem d_Model_graveTakes_43 : decode og_c_Model_graveTakes 43 = .ok (.iload 5, 2) := by decide +kernel
theorem d_Model_graveTakes_45 : decode og_c_Model_graveTakes 45 = .ok (.iload_n 1, 1) := by decide +kernel
theorem d_Model_graveTakes_46 : decode og_c_Model_graveTakes 46 = .ok (.invokevirtual 431, 3) := by decide +kernel
theorem d_Model_graveTakes_49 : decode og_c_Model_graveTakes 49 = .ok (.ifCond .ne 6, 3) := by decide +kernel
theorem d_Model_graveTakes_52 : decode og_c_Model_graveTakes 52 = .ok (.goto 32, 3) := by decide +kernel
theorem d_Model_graveTakes_55 : decode og_c_Model_graveTakes 55 = .ok (.aload_n 0, 1) := by decide +kernel
theorem d_Model_graveTakes_56 : decode og_c_Model_graveTakes 56 = .ok (.iload 5, 2) := by decide +kernel
theorem d_Model_graveTakes_58 : decode og_c_Model_graveTakes 58 = .ok (.invokevirtual 452, 3) := by decide +kernel
theorem d_Model_graveTakes_61 : decode og_c_Model_graveTakes 61 = .ok (.lstore 6, 2) := by decide +kernel
theorem d_Model_graveTakes_63 : decode og_c_Model_graveTakes 63 = .ok (.iload_n 2, 1) := by decide +kernel
theorem d_Model_graveTakes_64 : decode og_c_Model_graveTakes 64 = .ok (.iconst (-1), 1) := by decide +kernel
theorem d_Model_graveTakes_65 : decode og_c_Model_graveTakes 65 = .ok (.if_icmp .eq 13, 3) := by decide +kernel
theorem d_Model_graveTakes_68 : decode og_c_Model_graveTakes 68 = .ok (.lload 6, 2) := by decide +kernel
theorem d_Model_graveTakes_70 : decode og_c_Model_graveTakes 70 = .ok (.lload_n 3, 1) := by decide +kernel
theorem d_Model_graveTakes_71 : decode og_c_Model_graveTakes 71 = .ok (.lcmp, 1) := by decide +kernel
theorem d_Model_graveTakes_72 : decode og_c_Model_graveTakes 72 = .ok (.ifCond .gt 6, 3) := by decide +kernel
theorem d_Model_graveTakes_75 : decode og_c_Model_graveTakes 75 = .ok (.goto 9, 3) := by decide +kernel
theorem d_Model_graveTakes_78 : decode og_c_Model_graveTakes 78 = .ok (.iload 5, 2) := by decide +kernel
theorem d_Model_graveTakes_80 : decode og_c_Model_graveTakes 80 = .ok (.istore_n 2, 1) := by decide +kernel
theorem d_Model_graveTakes_81 : decode og_c_Model_graveTakes 81 = .ok (.lload 6, 2) := by decide +kernel
theorem d_Model_graveTakes_83 : decode og_c_Model_graveTakes 83 = .ok (.lstore_n 3, 1) := by decide +kernel
theorem d_Model_graveTakes_84 : decode og_c_Model_graveTakes 84 = .ok (.iinc 5 1, 3) := by decide +kernel
theorem d_Model_graveTakes_87 : decode og_c_Model_graveTakes 87 = .ok (.goto (-63), 3) := by decide +kernel
theorem d_Model_graveTakes_90 : decode og_c_Model_graveTakes 90 = .ok (.iload_n 2, 1) := by decide +kernel
theorem d_Model_graveTakes_91 : decode og_c_Model_graveTakes 91 = .ok (.iconst (-1), 1) := by decide +kernel
theorem d_Model_graveTakes_92 : decode og_c_Model_graveTakes 92 = .ok (.if_icmp .ne 4, 3) := by decide +kernel
theorem d_Model_graveTakes_95 : decode og_c_Model_graveTakes 95 = .ok (.return_, 1) := by decide +kernel
theorem d_Model_graveTakes_96 : decode og_c_Model_graveTakes 96 = .ok (.aload_n 0, 1) := by decide +kernel
theorem d_Model_graveTakes_97 : decode og_c_Model_graveTakes 97 = .ok (.iload_n 2, 1) := by decide +kernel
theorem d_Model_graveTakes_98 : decode og_c_Model_graveTakes 98 = .ok (.iload_n 1, 1) := by decide +kernel
theorem d_Model_graveTakes_99 : decode og_c_Model_graveTakes 99 = .ok (.iconst 1, 1) := by decide +kernel
theorem d_Model_graveTakes_100 : decode og_c_Model_graveTakes 100 = .ok (.invokevirtual 448, 3) := by decide +kernel
theorem d_Model_graveTakes_103 : decode og_c_Model_graveTakes 103 = .ok (.aload_n 0, 1) := by decide +kernel
theorem d_Model_graveTakes_104 : decode og_c_Model_graveTakes 104 = .ok (.dup, 1) := by decide +kernel
theorem d_Model_graveTakes_105 : decode og_c_Model_graveTakes 105 = .ok (.getfield 456, 3) := by decide +kernel
theorem d_Model_graveTakes_108 : decode og_c_Model_graveTakes 108 = .ok (.iconst 1, 1) := by decide +kernel
theorem d_Model_graveTakes_109 : decode og_c_Model_graveTakes 109 = .ok (.iadd, 1) := by decide +kernel
theorem d_Model_graveTakes_110 : decode og_c_Model_graveTakes 110 = .ok (.putfield 456, 3) := by decide +kernel
theorem d_Model_graveTakes_113 : decode og_c_Model_graveTakes 113 = .ok (.return_, 1) := by decide +kernel
def m_Model_graveTakes : og_Dn := og_den [17, 0] 8 2 (og_seq (og_if (og_or (og_not (og_cb (og_call m_Model_doesAsk [og_loc 0, og_loc 1]))) (og_cc og_rgt (og_call m_Model_dueOf [og_loc 0, og_loc 1]) (og_k 0))) (og_retv) (og_skip)) (og_seq (og_set 2 (og_k (-1))) (og_seq (og_set 3 (og_k 0)) (og_cut (og_seq (og_set 5 (og_k 0)) (og_while (og_cc og_rlt (og_loc 5) (og_call m_Model_personMany [og_loc 0])) (og_seq (og_if (og_or (og_not (og_cb (og_call m_Model_isAlive [og_loc 0, og_loc 5]))) (og_not (og_cb (og_call m_Model_doesFit [og_loc 0, og_loc 5, og_loc 1])))) (og_cont) (og_skip)) (og_seq (og_set 6 (og_call m_Model_takesOf [og_loc 0, og_loc 5])) (og_seq (og_if (og_and (og_cc og_rne (og_loc 2) (og_k (-1))) (og_cc og_rle (og_loc 6) (og_loc 3))) (og_cont) (og_skip)) (og_seq (og_set 2 (og_loc 5)) (og_set 3 (og_loc 6)))))) (og_inc 5 1))) (og_seq (og_if (og_cc og_req (og_loc 2) (og_k (-1))) (og_retv) (og_skip)) (og_seq (og_exp (og_call m_Model_goesInto [og_loc 0, og_loc 2, og_loc 1, og_k 1])) (og_pop32 og_padd 52 (og_loc 0) (og_k 1))))))))
set_option maxRecDepth 20000 in
theorem ok_Model_graveTakes : og_MOK og_y_Model_graveTakes og_c_Model_graveTakes 8 2 7 [17, 0] m_Model_graveTakes := og_method (b := 113) (lt' := [(0, 17), (1, 0)]) (by decide +kernel) (by decide) (by decide) (og_sdrop (lt' := [(0, 17), (1, 0), (2, 0), (3, 1)]) (lt2 := [(0, 17), (1, 0)]) (og_sseq (og_sif (T := 16) (F := 17) (og_cor (og_cnot (og_cbeq (tgt := 16) (og_callVz (og_acons (og_aload_n (i := 0) (t := 15) (j := 0) (by rfl) (by rfl) d_Model_graveTakes_0) (og_acons (og_iload_n (i := 1) (j := 1) (by rfl) (by rfl) d_Model_graveTakes_1) (og_anil))) (by decide) ok_Model_doesAsk (v_Model_doesAsk (by decide)) og_w1653 d_Model_graveTakes_2) d_Model_graveTakes_5 (by decide))) (og_ccn og_n_gt (og_zle (tgt := 17) (og_callVi (og_acons (og_aload_n (i := 0) (t := 15) (j := 0) (by rfl) (by rfl) d_Model_graveTakes_8) (og_acons (og_iload_n (i := 1) (j := 1) (by rfl) (by rfl) d_Model_graveTakes_9) (og_anil))) (by decide) ok_Model_dueOf (v_Model_dueOf (by decide)) og_w1682 d_Model_graveTakes_10) d_Model_graveTakes_13 (by decide)))) (og_sretv d_Model_graveTakes_16) (og_sskip)) (og_sseq (og_istore_n (i := 2) (lt' := [(0, 17), (1, 0), (2, 0)]) (og_iconst (by decide) d_Model_graveTakes_17) (by rfl) (by decide) (by decide) d_Model_graveTakes_18) (og_sseq (og_lstore_n (i := 3) (lt' := [(0, 17), (1, 0), (2, 0), (3, 1)]) (og_lconst (x := 0) d_Model_graveTakes_19) (by rfl) (by decide) (by decide) d_Model_graveTakes_20) (og_scut (og_sdrop (lt' := [(0, 17), (1, 0), (2, 0), (3, 1), (5, 0)]) (lt2 := [(0, 17), (1, 0), (2, 0), (3, 1)]) (og_sseq (og_istore (i := 5) (lt' := [(0, 17), (1, 0), (2, 0), (3, 1), (5, 0)]) (og_iconst (by decide) d_Model_graveTakes_21) (by decide) (by decide) d_Model_graveTakes_22) (og_swhile (T := 33) (F := 90) (cp0 := 84) (og_ccn og_n_lt (og_ige (tgt := 90) (og_iload (i := 5) (j := 4) (by rfl) d_Model_graveTakes_24) (og_callVi (og_acons (og_aload_n (i := 0) (t := 15) (j := 0) (by rfl) (by rfl) d_Model_graveTakes_26) (og_anil)) (by decide) ok_Model_personMany (v_Model_personMany (by decide)) og_w1637 d_Model_graveTakes_27) d_Model_graveTakes_30 (by decide))) (og_sdrop (lt' := [(0, 17), (1, 0), (2, 0), (3, 1), (5, 0), (6, 1)]) (lt2 := [(0, 17), (1, 0), (2, 0), (3, 1), (5, 0)]) (og_sseq (og_sif (T := 84) (F := 55) (og_cor (og_cnot (og_cbeq (tgt := 84) (og_callVz (og_acons (og_aload_n (i := 0) (t := 15) (j := 0) (by rfl) (by rfl) d_Model_graveTakes_33) (og_acons (og_iload (i := 5) (j := 4) (by rfl) d_Model_graveTakes_34) (og_anil))) (by decide) ok_Model_isAlive (v_Model_isAlive (by decide)) og_w1641 d_Model_graveTakes_36) d_Model_graveTakes_39 (by decide))) (og_cnot (og_gF (F' := 84) (og_cbne (tgt := 55) (og_callVz (og_acons (og_aload_n (i := 0) (t := 15) (j := 0) (by rfl) (by rfl) d_Model_graveTakes_42) (og_acons (og_iload (i := 5) (j := 4) (by rfl) d_Model_graveTakes_43) (og_acons (og_iload_n (i := 1) (j := 1) (by rfl) (by rfl) d_Model_graveTakes_45) (og_anil)))) (by decide) ok_Model_doesFit (v_Model_doesFit (by decide)) og_w1763 d_Model_graveTakes_46) d_Model_graveTakes_49 (by decide)) d_Model_graveTakes_52 (by decide)))) (og_scont (by decide)) (og_sskip)) (og_sseq (og_lstore (i := 6) (lt' := [(0, 17), (1, 0), (2, 0), (3, 1), (5, 0), (6, 1)]) (og_callVl (og_acons (og_aload_n (i := 0) (t := 15) (j := 0) (by rfl) (by rfl) d_Model_graveTakes_55) (og_acons (og_iload (i := 5) (j := 4) (by rfl) d_Model_graveTakes_56) (og_anil))) (by decide) ok_Model_takesOf (v_Model_takesOf (by decide)) og_w1742 d_Model_graveTakes_58) (by decide) (by decide) d_Model_graveTakes_61) (og_sseq (og_sif (T := 84) (F := 78) (og_cand (og_ccn og_n_ne (og_ieq (tgt := 78) (og_iload_n (i := 2) (j := 2) (by rfl) (by rfl) d_Model_graveTakes_63) (og_iconst (by decide) d_Model_graveTakes_64) d_Model_graveTakes_65 (by decide))) (og_gT (T' := 84) (og_ccn og_n_le (og_lgt (tgt := 78) (og_lload (i := 6) (j := 5) (by rfl) d_Model_graveTakes_68) (og_lload_n (i := 3) (j := 3) (by rfl) (by rfl) d_Model_graveTakes_70) d_Model_graveTakes_71 d_Model_graveTakes_72 (by decide))) d_Model_graveTakes_75 (by decide))) (og_scont (by decide)) (og_sskip)) (og_sseq (og_istore_n (i := 2) (lt' := [(0, 17), (1, 0), (2, 0), (3, 1), (5, 0), (6, 1)]) (og_iload (i := 5) (j := 4) (by rfl) d_Model_graveTakes_78) (by rfl) (by decide) (by decide) d_Model_graveTakes_80) (og_lstore_n (i := 3) (lt' := [(0, 17), (1, 0), (2, 0), (3, 1), (5, 0), (6, 1)]) (og_lload (i := 6) (j := 5) (by rfl) d_Model_graveTakes_81) (by rfl) (by decide) (by decide) d_Model_graveTakes_83))))) (by decide)) (og_gS (b' := 24) (og_iinc (j := 4) (lt' := [(0, 17), (1, 0), (2, 0), (3, 1), (5, 0)]) (by rfl) (by decide) (by decide) d_Model_graveTakes_84) d_Model_graveTakes_87 (by decide)))) (by decide)) (og_sseq (og_sif (T := 95) (F := 96) (og_ccn og_n_eq (og_ine (tgt := 96) (og_iload_n (i := 2) (j := 2) (by rfl) (by rfl) d_Model_graveTakes_90) (og_iconst (by decide) d_Model_graveTakes_91) d_Model_graveTakes_92 (by decide))) (og_sretv d_Model_graveTakes_95) (og_sskip)) (og_sseq (og_callVv (og_acons (og_aload_n (i := 0) (t := 15) (j := 0) (by rfl) (by rfl) d_Model_graveTakes_96) (og_acons (og_iload_n (i := 2) (j := 2) (by rfl) (by rfl) d_Model_graveTakes_97) (og_acons (og_iload_n (i := 1) (j := 1) (by rfl) (by rfl) d_Model_graveTakes_98) (og_acons (og_iconst (by decide) d_Model_graveTakes_99) (og_anil))))) ok_Model_goesInto (v_Model_goesInto (by decide)) og_w1800 d_Model_graveTakes_100) (og_qadd_Model_takenNow (og_aload_n (i := 0) (t := 15) (j := 0) (by rfl) (by rfl) d_Model_graveTakes_103) d_Model_graveTakes_104 d_Model_graveTakes_105 (og_iconst (by decide) d_Model_graveTakes_108) d_Model_graveTakes_109 og_w1195 d_Model_graveTakes_110))))))) (by decide)) (fun _ => d_Model_graveTakes_113)
abbrev og_c_Model_monthGoes : ByteArray := prog_14_method_53_code
abbrev og_y_Model_monthGoes : MethodName := ⟨"OpenGravesModel", "monthGoes", "()V"⟩
theorem v_Model_monthGoes {own : String} {idx dep : Nat} (h : 8 + 1 ≤ dep) : og_sV own idx og_y_Model_monthGoes og_c_Model_monthGoes 2 2 8 dep 13 0 := ⟨⟨12, og_sl_Model, og_T_Model, 102, rfl, by decide, rfl⟩, og_w1790, (og_memP (⟨"OpenGravesModel", "monthGoes", "()V"⟩, 102) (List.mem_of_getElem? (i := 115) (by decide +kernel))), og_w17, og_w1791, ⟨by decide +kernel, by decide +kernel, by decide +kernel⟩, h, by decide⟩
theorem d_Model_monthGoes_0 : decode og_c_Model_monthGoes 0 = .ok (.iconst 0, 1) := by decide +kernel
theorem d_Model_monthGoes_1 : decode og_c_Model_monthGoes 1 = .ok (.istore_n 1, 1) := by decide +kernel
theorem d_Model_monthGoes_2 : decode og_c_Model_monthGoes 2 = .ok (.iload_n 1, 1) := by decide +kernel
theorem d_Model_monthGoes_3 : decode og_c_Model_monthGoes 3 = .ok (.aload_n 0, 1) := by decide +kernel
theorem d_Model_monthGoes_4 : decode og_c_Model_monthGoes 4 = .ok (.invokevirtual 381, 3) := by decide +kernel
theorem d_Model_monthGoes_7 : decode og_c_Model_monthGoes 7 = .ok (.if_icmp .ge 14, 3) := by decide +kernel
theorem d_Model_monthGoes_10 : decode og_c_Model_monthGoes 10 = .ok (.aload_n 0, 1) := by decide +kernel
theorem d_Model_monthGoes_11 : decode og_c_Model_monthGoes 11 = .ok (.iload_n 1, 1) := by decide +kernel
theorem d_Model_monthGoes_12 : decode og_c_Model_monthGoes 12 = .ok (.invokevirtual 459, 3) := by decide +kernel
theorem d_Model_monthGoes_15 : decode og_c_Model_monthGoes 15 = .ok (.iinc 1 1, 3) := by decide +kernel
theorem d_Model_monthGoes_18 : decode og_c_Model_monthGoes 18 = .ok (.goto (-16), 3) := by decide +kernel
theorem d_Model_monthGoes_21 : decode og_c_Model_monthGoes 21 = .ok (.iconst 0, 1) := by decide +kernel
theorem d_Model_monthGoes_22 : decode og_c_Model_monthGoes 22 = .ok (.istore_n 1, 1) := by decide +kernel
theorem d_Model_monthGoes_23 : decode og_c_Model_monthGoes 23 = .ok (.iload_n 1, 1) := by decide +kernel
theorem d_Model_monthGoes_24 : decode og_c_Model_monthGoes 24 = .ok (.aload_n 0, 1) := by decide +kernel
theorem d_Model_monthGoes_25 : decode og_c_Model_monthGoes 25 = .ok (.invokevirtual 378, 3) := by decide +kernel
theorem d_Model_monthGoes_28 : decode og_c_Model_monthGoes 28 = .ok (.if_icmp .ge 39, 3) := by decide +kernel
theorem d_Model_monthGoes_31 : decode og_c_Model_monthGoes 31 = .ok (.aload_n 0, 1) := by decide +kernel
theorem d_Model_monthGoes_32 : decode og_c_Model_monthGoes 32 = .ok (.iload_n 1, 1) := by decide +kernel
theorem d_Model_monthGoes_33 : decode og_c_Model_monthGoes 33 = .ok (.invokevirtual 390, 3) := by decide +kernel
theorem d_Model_monthGoes_36 : decode og_c_Model_monthGoes 36 = .ok (.ifCond .eq 25, 3) := by decide +kernel
theorem d_Model_monthGoes_39 : decode og_c_Model_monthGoes 39 = .ok (.aload_n 0, 1) := by decide +kernel
theorem d_Model_monthGoes_40 : decode og_c_Model_monthGoes 40 = .ok (.iload_n 1, 1) := by decide +kernel
theorem d_Model_monthGoes_41 : decode og_c_Model_monthGoes 41 = .ok (.invokevirtual 435, 3) := by decide +kernel
theorem d_Model_monthGoes_44 : decode og_c_Model_monthGoes 44 = .ok (.ifCond .le 17, 3) := by decide +kernel
theorem d_Model_monthGoes_47 : decode og_c_Model_monthGoes 47 = .ok (.aload_n 0, 1) := by decide +kernel
theorem d_Model_monthGoes_48 : decode og_c_Model_monthGoes 48 = .ok (.getfield 124, 3) := by decide +kernel
theorem d_Model_monthGoes_51 : decode og_c_Model_monthGoes 51 = .ok (.iconst 2, 1) := by decide +kernel
theorem d_Model_monthGoes_52 : decode og_c_Model_monthGoes 52 = .ok (.iconst 3, 1) := by decide +kernel
theorem d_Model_monthGoes_53 : decode og_c_Model_monthGoes 53 = .ok (.iload_n 1, 1) := by decide +kernel
theorem d_Model_monthGoes_54 : decode og_c_Model_monthGoes 54 = .ok (.imul, 1) := by decide +kernel
theorem d_Model_monthGoes_55 : decode og_c_Model_monthGoes 55 = .ok (.iadd, 1) := by decide +kernel
theorem d_Model_monthGoes_56 : decode og_c_Model_monthGoes 56 = .ok (.dup2, 1) := by decide +kernel
theorem d_Model_monthGoes_57 : decode og_c_Model_monthGoes 57 = .ok (.iaload, 1) := by decide +kernel
theorem d_Model_monthGoes_58 : decode og_c_Model_monthGoes 58 = .ok (.iconst 1, 1) := by decide +kernel
theorem d_Model_monthGoes_59 : decode og_c_Model_monthGoes 59 = .ok (.isub, 1) := by decide +kernel
theorem d_Model_monthGoes_60 : decode og_c_Model_monthGoes 60 = .ok (.iastore, 1) := by decide +kernel
theorem d_Model_monthGoes_61 : decode og_c_Model_monthGoes 61 = .ok (.iinc 1 1, 3) := by decide +kernel
theorem d_Model_monthGoes_64 : decode og_c_Model_monthGoes 64 = .ok (.goto (-41), 3) := by decide +kernel
theorem d_Model_monthGoes_67 : decode og_c_Model_monthGoes 67 = .ok (.aload_n 0, 1) := by decide +kernel
theorem d_Model_monthGoes_68 : decode og_c_Model_monthGoes 68 = .ok (.iconst 0, 1) := by decide +kernel
theorem d_Model_monthGoes_69 : decode og_c_Model_monthGoes 69 = .ok (.putfield 456, 3) := by decide +kernel
theorem d_Model_monthGoes_72 : decode og_c_Model_monthGoes 72 = .ok (.iconst 0, 1) := by decide +kernel
theorem d_Model_monthGoes_73 : decode og_c_Model_monthGoes 73 = .ok (.istore_n 1, 1) := by decide +kernel
theorem d_Model_monthGoes_74 : decode og_c_Model_monthGoes 74 = .ok (.iload_n 1, 1) := by decide +kernel
theorem d_Model_monthGoes_75 : decode og_c_Model_monthGoes 75 = .ok (.aload_n 0, 1) := by decide +kernel
theorem d_Model_monthGoes_76 : decode og_c_Model_monthGoes 76 = .ok (.invokevirtual 378, 3) := by decide +kernel
theorem d_Model_monthGoes_79 : decode og_c_Model_monthGoes 79 = .ok (.if_icmp .ge 14, 3) := by decide +kernel
theorem d_Model_monthGoes_82 : decode og_c_Model_monthGoes 82 = .ok (.aload_n 0, 1) := by decide +kernel
theorem d_Model_monthGoes_83 : decode og_c_Model_monthGoes 83 = .ok (.iload_n 1, 1) := by decide +kernel
theorem d_Model_monthGoes_84 : decode og_c_Model_monthGoes 84 = .ok (.invokevirtual 462, 3) := by decide +kernel
theorem d_Model_monthGoes_87 : decode og_c_Model_monthGoes 87 = .ok (.iinc 1 1, 3) := by decide +kernel
theorem d_Model_monthGoes_90 : decode og_c_Model_monthGoes 90 = .ok (.goto (-16), 3) := by decide +kernel
theorem d_Model_monthGoes_93 : decode og_c_Model_monthGoes 93 = .ok (.aload_n 0, 1) := by decide +kernel
theorem d_Model_monthGoes_94 : decode og_c_Model_monthGoes 94 = .ok (.dup, 1) := by decide +kernel
theorem d_Model_monthGoes_95 : decode og_c_Model_monthGoes 95 = .ok (.getfield 465, 3) := by decide +kernel
theorem d_Model_monthGoes_98 : decode og_c_Model_monthGoes 98 = .ok (.aload_n 0, 1) := by decide +kernel
theorem d_Model_monthGoes_99 : decode og_c_Model_monthGoes 99 = .ok (.getfield 456, 3) := by decide +kernel
theorem d_Model_monthGoes_102 : decode og_c_Model_monthGoes 102 = .ok (.iadd, 1) := by decide +kernel
theorem d_Model_monthGoes_103 : decode og_c_Model_monthGoes 103 = .ok (.putfield 465, 3) := by decide +kernel
theorem d_Model_monthGoes_106 : decode og_c_Model_monthGoes 106 = .ok (.iconst 0, 1) := by decide +kernel
theorem d_Model_monthGoes_107 : decode og_c_Model_monthGoes 107 = .ok (.istore_n 1, 1) := by decide +kernel
theorem d_Model_monthGoes_108 : decode og_c_Model_monthGoes 108 = .ok (.iload_n 1, 1) := by decide +kernel
theorem d_Model_monthGoes_109 : decode og_c_Model_monthGoes 109 = .ok (.aload_n 0, 1) := by decide +kernel
theorem d_Model_monthGoes_110 : decode og_c_Model_monthGoes 110 = .ok (.invokevirtual 381, 3) := by decide +kernel
theorem d_Model_monthGoes_113 : decode og_c_Model_monthGoes 113 = .ok (.if_icmp .ge 47, 3) := by decide +kernel
theorem d_Model_monthGoes_116 : decode og_c_Model_monthGoes 116 = .ok (.aload_n 0, 1) := by decide +kernel
theorem d_Model_monthGoes_117 : decode og_c_Model_monthGoes 117 = .ok (.iload_n 1, 1) := by decide +kernel
theorem d_Model_monthGoes_118 : decode og_c_Model_monthGoes 118 = .ok (.invokevirtual 393, 3) := by decide +kernel
theorem d_Model_monthGoes_121 : decode og_c_Model_monthGoes 121 = .ok (.ifCond .eq 33, 3) := by decide +kernel
theorem d_Model_monthGoes_124 : decode og_c_Model_monthGoes 124 = .ok (.aload_n 0, 1) := by decide +kernel
theorem d_Model_monthGoes_125 : decode og_c_Model_monthGoes 125 = .ok (.iconst 3, 1) := by decide +kernel
theorem d_Model_monthGoes_126 : decode og_c_Model_monthGoes 126 = .ok (.invokevirtual 413, 3) := by decide +kernel
theorem d_Model_monthGoes_129 : decode og_c_Model_monthGoes 129 = .ok (.ifCond .eq 25, 3) := by decide +kernel
theorem d_Model_monthGoes_132 : decode og_c_Model_monthGoes 132 = .ok (.aload_n 0, 1) := by decide +kernel
theorem d_Model_monthGoes_133 : decode og_c_Model_monthGoes 133 = .ok (.getfield 124, 3) := by decide +kernel
theorem d_Model_monthGoes_136 : decode og_c_Model_monthGoes 136 = .ok (.bipush 21, 2) := by decide +kernel
theorem d_Model_monthGoes_138 : decode og_c_Model_monthGoes 138 = .ok (.iconst 3, 1) := by decide +kernel
theorem d_Model_monthGoes_139 : decode og_c_Model_monthGoes 139 = .ok (.iload_n 1, 1) := by decide +kernel
theorem d_Model_monthGoes_140 : decode og_c_Model_monthGoes 140 = .ok (.imul, 1) := by decide +kernel
theorem d_Model_monthGoes_141 : decode og_c_Model_monthGoes 141 = .ok (.iadd, 1) := by decide +kernel
theorem d_Model_monthGoes_142 : decode og_c_Model_monthGoes 142 = .ok (.aload_n 0, 1) := by decide +kernel
theorem d_Model_monthGoes_143 : decode og_c_Model_monthGoes 143 = .ok (.iconst 3, 1) := by decide +kernel
theorem d_Model_monthGoes_144 : decode og_c_Model_monthGoes 144 = .ok (.iload_n 1, 1) := by decide +kernel
theorem d_Model_monthGoes_145 : decode og_c_Model_monthGoes 145 = .ok (.invokevirtual 416, 3) := by decide +kernel
theorem d_Model_monthGoes_148 : decode og_c_Model_monthGoes 148 = .ok (.bipush 9, 2) := by decide +kernel
theorem d_Model_monthGoes_150 : decode og_c_Model_monthGoes 150 = .ok (.invokestatic 422, 3) := by decide +kernel
theorem d_Model_monthGoes_153 : decode og_c_Model_monthGoes 153 = .ok (.iastore, 1) := by decide +kernel
theorem d_Model_monthGoes_154 : decode og_c_Model_monthGoes 154 = .ok (.iinc 1 1, 3) := by decide +kernel
theorem d_Model_monthGoes_157 : decode og_c_Model_monthGoes 157 = .ok (.goto (-49), 3) := by decide +kernel
theorem d_Model_monthGoes_160 : decode og_c_Model_monthGoes 160 = .ok (.iconst 0, 1) := by decide +kernel
theorem d_Model_monthGoes_161 : decode og_c_Model_monthGoes 161 = .ok (.istore_n 1, 1) := by decide +kernel
theorem d_Model_monthGoes_162 : decode og_c_Model_monthGoes 162 = .ok (.iload_n 1, 1) := by decide +kernel
theorem d_Model_monthGoes_163 : decode og_c_Model_monthGoes 163 = .ok (.aload_n 0, 1) := by decide +kernel
theorem d_Model_monthGoes_164 : decode og_c_Model_monthGoes 164 = .ok (.invokevirtual 381, 3) := by decide +kernel
theorem d_Model_monthGoes_167 : decode og_c_Model_monthGoes 167 = .ok (.if_icmp .ge 56, 3) := by decide +kernel
theorem d_Model_monthGoes_170 : decode og_c_Model_monthGoes 170 = .ok (.aload_n 0, 1) := by decide +kernel
theorem d_Model_monthGoes_171 : decode og_c_Model_monthGoes 171 = .ok (.iload_n 1, 1) := by decide +kernel
theorem d_Model_monthGoes_172 : decode og_c_Model_monthGoes 172 = .ok (.invokevirtual 393, 3) := by decide +kernel
theorem d_Model_monthGoes_175 : decode og_c_Model_monthGoes 175 = .ok (.ifCond .eq 42, 3) := by decide +kernel
theorem d_Model_monthGoes_178 : decode og_c_Model_monthGoes 178 = .ok (.aload_n 0, 1) := by decide +kernel
theorem d_Model_monthGoes_179 : decode og_c_Model_monthGoes 179 = .ok (.getfield 124, 3) := by decide +kernel
theorem d_Model_monthGoes_182 : decode og_c_Model_monthGoes 182 = .ok (.iconst 0, 1) := by decide +kernel
theorem d_Model_monthGoes_183 : decode og_c_Model_monthGoes 183 = .ok (.iaload, 1) := by decide +kernel
theorem d_Model_monthGoes_184 : decode og_c_Model_monthGoes 184 = .ok (.bipush 12, 2) := by decide +kernel
theorem d_Model_monthGoes_186 : decode og_c_Model_monthGoes 186 = .ok (.irem, 1) := by decide +kernel
theorem d_Model_monthGoes_187 : decode og_c_Model_monthGoes 187 = .ok (.bipush 11, 2) := by decide +kernel
theorem d_Model_monthGoes_189 : decode og_c_Model_monthGoes 189 = .ok (.if_icmp .ne 28, 3) := by decide +kernel
theorem d_Model_monthGoes_192 : decode og_c_Model_monthGoes 192 = .ok (.aload_n 0, 1) := by decide +kernel
theorem d_Model_monthGoes_193 : decode og_c_Model_monthGoes 193 = .ok (.iload_n 1, 1) := by decide +kernel
theorem d_Model_monthGoes_194 : decode og_c_Model_monthGoes 194 = .ok (.invokevirtual 419, 3) := by decide +kernel
theorem d_Model_monthGoes_197 : decode og_c_Model_monthGoes 197 = .ok (.bipush 99, 2) := by decide +kernel
theorem d_Model_monthGoes_199 : decode og_c_Model_monthGoes 199 = .ok (.if_icmp .ge 18, 3) := by decide +kernel
theorem d_Model_monthGoes_202 : decode og_c_Model_monthGoes 202 = .ok (.aload_n 0, 1) := by decide +kernel
theorem d_Model_monthGoes_203 : decode og_c_Model_monthGoes 203 = .ok (.getfield 124, 3) := by decide +kernel
theorem d_Model_monthGoes_206 : decode og_c_Model_monthGoes 206 = .ok (.bipush 20, 2) := by decide +kernel
theorem d_Model_monthGoes_208 : decode og_c_Model_monthGoes 208 = .ok (.iconst 3, 1) := by decide +kernel
theorem d_Model_monthGoes_209 : decode og_c_Model_monthGoes 209 = .ok (.iload_n 1, 1) := by decide +kernel
theorem d_Model_monthGoes_210 : decode og_c_Model_monthGoes 210 = .ok (.imul, 1) := by decide +kernel
theorem d_Model_monthGoes_211 : decode og_c_Model_monthGoes 211 = .ok (.iadd, 1) := by decide +kernel
theorem d_Model_monthGoes_212 : decode og_c_Model_monthGoes 212 = .ok (.dup2, 1) := by decide +kernel
theorem d_Model_monthGoes_213 : decode og_c_Model_monthGoes 213 = .ok (.iaload, 1) := by decide +kernel
theorem d_Model_monthGoes_214 : decode og_c_Model_monthGoes 214 = .ok (.iconst 1, 1) := by decide +kernel
theorem d_Model_monthGoes_215 : decode og_c_Model_monthGoes 215 = .ok (.iadd, 1) := by decide +kernel
theorem d_Model_monthGoes_216 : decode og_c_Model_monthGoes 216 = .ok (.iastore, 1) := by decide +kernel
theorem d_Model_monthGoes_217 : decode og_c_Model_monthGoes 217 = .ok (.iinc 1 1, 3) := by decide +kernel
theorem d_Model_monthGoes_220 : decode og_c_Model_monthGoes 220 = .ok (.goto (-58), 3) := by decide +kernel
theorem d_Model_monthGoes_223 : decode og_c_Model_monthGoes 223 = .ok (.aload_n 0, 1) := by decide +kernel
theorem d_Model_monthGoes_224 : decode og_c_Model_monthGoes 224 = .ok (.getfield 124, 3) := by decide +kernel
theorem d_Model_monthGoes_227 : decode og_c_Model_monthGoes 227 = .ok (.iconst 0, 1) := by decide +kernel
theorem d_Model_monthGoes_228 : decode og_c_Model_monthGoes 228 = .ok (.dup2, 1) := by decide +kernel
theorem d_Model_monthGoes_229 : decode og_c_Model_monthGoes 229 = .ok (.iaload, 1) := by decide +kernel
theorem d_Model_monthGoes_230 : decode og_c_Model_monthGoes 230 = .ok (.iconst 1, 1) := by decide +kernel
theorem d_Model_monthGoes_231 : decode og_c_Model_monthGoes 231 = .ok (.iadd, 1) := by decide +kernel
theorem d_Model_monthGoes_232 : decode og_c_Model_monthGoes 232 = .ok (.iastore, 1) := by decide +kernel
theorem d_Model_monthGoes_233 : decode og_c_Model_monthGoes 233 = .ok (.return_, 1) := by decide +kernel
def m_Model_monthGoes : og_Dn := og_den [17] 2 2 (og_cut (og_seq (og_set 1 (og_k 0)) (og_while (og_cc og_rlt (og_loc 1) (og_call m_Model_personMany [og_loc 0])) (og_exp (og_call m_Model_comes [og_loc 0, og_loc 1])) (og_inc 1 1))) (og_cut (og_seq (og_set 1 (og_k 0)) (og_while (og_cc og_rlt (og_loc 1) (og_call m_Model_graveMany [og_loc 0])) (og_if (og_and (og_cb (og_call m_Model_doesAsk [og_loc 0, og_loc 1])) (og_cc og_rgt (og_call m_Model_dueOf [og_loc 0, og_loc 1]) (og_k 0))) (og_aop og_psub 204 (og_fix (fun _ => 1037) (og_loc 0)) (og_add (og_k 2) (og_mul (og_k 3) (og_loc 1))) (og_k 1)) (og_skip)) (og_inc 1 1))) (og_seq (og_putf 52 (og_loc 0) (og_k 0)) (og_cut (og_seq (og_set 1 (og_k 0)) (og_while (og_cc og_rlt (og_loc 1) (og_call m_Model_graveMany [og_loc 0])) (og_exp (og_call m_Model_graveTakes [og_loc 0, og_loc 1])) (og_inc 1 1))) (og_seq (og_pop32 og_padd 54 (og_loc 0) (og_get 52 (og_loc 0))) (og_cut (og_seq (og_set 1 (og_k 0)) (og_while (og_cc og_rlt (og_loc 1) (og_call m_Model_personMany [og_loc 0])) (og_if (og_and (og_cb (og_call m_Model_isAlive [og_loc 0, og_loc 1])) (og_cb (og_call m_Model_isTold [og_loc 0, og_k 3]))) (og_ast 204 (og_fix (fun _ => 1037) (og_loc 0)) (og_add (og_k 21) (og_mul (og_k 3) (og_loc 1))) (og_call m_Model_cut [og_call m_Model_codesTell [og_loc 0, og_k 3, og_loc 1], og_k 9])) (og_skip)) (og_inc 1 1))) (og_cut (og_seq (og_set 1 (og_k 0)) (og_while (og_cc og_rlt (og_loc 1) (og_call m_Model_personMany [og_loc 0])) (og_if (og_and (og_and (og_cb (og_call m_Model_isAlive [og_loc 0, og_loc 1])) (og_cc og_req (og_rem (og_ald 204 (og_fix (fun _ => 1037) (og_loc 0)) (og_k 0)) (og_k 12)) (og_k 11))) (og_cc og_rlt (og_call m_Model_ageOf [og_loc 0, og_loc 1]) (og_k 99))) (og_aop og_padd 204 (og_fix (fun _ => 1037) (og_loc 0)) (og_add (og_k 20) (og_mul (og_k 3) (og_loc 1))) (og_k 1)) (og_skip)) (og_inc 1 1))) (og_aop og_padd 204 (og_fix (fun _ => 1037) (og_loc 0)) (og_k 0) (og_k 1)))))))))
set_option maxRecDepth 20000 in
theorem ok_Model_monthGoes : og_MOK og_y_Model_monthGoes og_c_Model_monthGoes 2 2 8 [17] m_Model_monthGoes := og_method (b := 233) (lt' := [(0, 17)]) (by decide +kernel) (by decide) (by decide) (og_scut (og_sdrop (lt' := [(0, 17), (1, 0)]) (lt2 := [(0, 17)]) (og_sseq (og_istore_n (i := 1) (lt' := [(0, 17), (1, 0)]) (og_iconst (by decide) d_Model_monthGoes_0) (by rfl) (by decide) (by decide) d_Model_monthGoes_1) (og_swhile (T := 10) (F := 21) (cp0 := 15) (og_ccn og_n_lt (og_ige (tgt := 21) (og_iload_n (i := 1) (j := 1) (by rfl) (by rfl) d_Model_monthGoes_2) (og_callVi (og_acons (og_aload_n (i := 0) (t := 15) (j := 0) (by rfl) (by rfl) d_Model_monthGoes_3) (og_anil)) (by decide) ok_Model_personMany (v_Model_personMany (by decide)) og_w1637 d_Model_monthGoes_4) d_Model_monthGoes_7 (by decide))) (og_callVv (og_acons (og_aload_n (i := 0) (t := 15) (j := 0) (by rfl) (by rfl) d_Model_monthGoes_10) (og_acons (og_iload_n (i := 1) (j := 1) (by rfl) (by rfl) d_Model_monthGoes_11) (og_anil))) ok_Model_comes (v_Model_comes (by decide)) og_w1792 d_Model_monthGoes_12) (og_gS (b' := 2) (og_iinc (j := 1) (lt' := [(0, 17), (1, 0)]) (by rfl) (by decide) (by decide) d_Model_monthGoes_15) d_Model_monthGoes_18 (by decide)))) (by decide)) (og_scut (og_sdrop (lt' := [(0, 17), (1, 0)]) (lt2 := [(0, 17)]) (og_sseq (og_istore_n (i := 1) (lt' := [(0, 17), (1, 0)]) (og_iconst (by decide) d_Model_monthGoes_21) (by rfl) (by decide) (by decide) d_Model_monthGoes_22) (og_swhile (T := 31) (F := 67) (cp0 := 61) (og_ccn og_n_lt (og_ige (tgt := 67) (og_iload_n (i := 1) (j := 1) (by rfl) (by rfl) d_Model_monthGoes_23) (og_callVi (og_acons (og_aload_n (i := 0) (t := 15) (j := 0) (by rfl) (by rfl) d_Model_monthGoes_24) (og_anil)) (by decide) ok_Model_graveMany (v_Model_graveMany (by decide)) og_w1649 d_Model_monthGoes_25) d_Model_monthGoes_28 (by decide))) (og_sif (T := 47) (F := 61) (og_cand (og_cbeq (tgt := 61) (og_callVz (og_acons (og_aload_n (i := 0) (t := 15) (j := 0) (by rfl) (by rfl) d_Model_monthGoes_31) (og_acons (og_iload_n (i := 1) (j := 1) (by rfl) (by rfl) d_Model_monthGoes_32) (og_anil))) (by decide) ok_Model_doesAsk (v_Model_doesAsk (by decide)) og_w1653 d_Model_monthGoes_33) d_Model_monthGoes_36 (by decide)) (og_ccn og_n_gt (og_zle (tgt := 61) (og_callVi (og_acons (og_aload_n (i := 0) (t := 15) (j := 0) (by rfl) (by rfl) d_Model_monthGoes_39) (og_acons (og_iload_n (i := 1) (j := 1) (by rfl) (by rfl) d_Model_monthGoes_40) (og_anil))) (by decide) ok_Model_dueOf (v_Model_dueOf (by decide)) og_w1682 d_Model_monthGoes_41) d_Model_monthGoes_44 (by decide)))) (og_asub (N := 204) (og_f_Model_now (og_aload_n (i := 0) (t := 15) (j := 0) (by rfl) (by rfl) d_Model_monthGoes_47) og_w1192 d_Model_monthGoes_48) (by rfl) (og_iadd (og_iconst (by decide) d_Model_monthGoes_51) (og_imul (og_iconst (by decide) d_Model_monthGoes_52) (og_iload_n (i := 1) (j := 1) (by rfl) (by rfl) d_Model_monthGoes_53) d_Model_monthGoes_54) d_Model_monthGoes_55) d_Model_monthGoes_56 d_Model_monthGoes_57 (og_iconst (by decide) d_Model_monthGoes_58) d_Model_monthGoes_59 d_Model_monthGoes_60) (og_sskip)) (og_gS (b' := 23) (og_iinc (j := 1) (lt' := [(0, 17), (1, 0)]) (by rfl) (by decide) (by decide) d_Model_monthGoes_61) d_Model_monthGoes_64 (by decide)))) (by decide)) (og_sseq (og_p_Model_takenNow (og_aload_n (i := 0) (t := 15) (j := 0) (by rfl) (by rfl) d_Model_monthGoes_67) (og_iconst (by decide) d_Model_monthGoes_68) og_w1195 d_Model_monthGoes_69) (og_scut (og_sdrop (lt' := [(0, 17), (1, 0)]) (lt2 := [(0, 17)]) (og_sseq (og_istore_n (i := 1) (lt' := [(0, 17), (1, 0)]) (og_iconst (by decide) d_Model_monthGoes_72) (by rfl) (by decide) (by decide) d_Model_monthGoes_73) (og_swhile (T := 82) (F := 93) (cp0 := 87) (og_ccn og_n_lt (og_ige (tgt := 93) (og_iload_n (i := 1) (j := 1) (by rfl) (by rfl) d_Model_monthGoes_74) (og_callVi (og_acons (og_aload_n (i := 0) (t := 15) (j := 0) (by rfl) (by rfl) d_Model_monthGoes_75) (og_anil)) (by decide) ok_Model_graveMany (v_Model_graveMany (by decide)) og_w1649 d_Model_monthGoes_76) d_Model_monthGoes_79 (by decide))) (og_callVv (og_acons (og_aload_n (i := 0) (t := 15) (j := 0) (by rfl) (by rfl) d_Model_monthGoes_82) (og_acons (og_iload_n (i := 1) (j := 1) (by rfl) (by rfl) d_Model_monthGoes_83) (og_anil))) ok_Model_graveTakes (v_Model_graveTakes (by decide)) og_w1804 d_Model_monthGoes_84) (og_gS (b' := 74) (og_iinc (j := 1) (lt' := [(0, 17), (1, 0)]) (by rfl) (by decide) (by decide) d_Model_monthGoes_87) d_Model_monthGoes_90 (by decide)))) (by decide)) (og_sseq (og_qadd_Model_takenMany (og_aload_n (i := 0) (t := 15) (j := 0) (by rfl) (by rfl) d_Model_monthGoes_93) d_Model_monthGoes_94 d_Model_monthGoes_95 (og_f_Model_takenNow (og_aload_n (i := 0) (t := 15) (j := 0) (by rfl) (by rfl) d_Model_monthGoes_98) og_w1195 d_Model_monthGoes_99) d_Model_monthGoes_102 og_w1197 d_Model_monthGoes_103) (og_scut (og_sdrop (lt' := [(0, 17), (1, 0)]) (lt2 := [(0, 17)]) (og_sseq (og_istore_n (i := 1) (lt' := [(0, 17), (1, 0)]) (og_iconst (by decide) d_Model_monthGoes_106) (by rfl) (by decide) (by decide) d_Model_monthGoes_107) (og_swhile (T := 116) (F := 160) (cp0 := 154) (og_ccn og_n_lt (og_ige (tgt := 160) (og_iload_n (i := 1) (j := 1) (by rfl) (by rfl) d_Model_monthGoes_108) (og_callVi (og_acons (og_aload_n (i := 0) (t := 15) (j := 0) (by rfl) (by rfl) d_Model_monthGoes_109) (og_anil)) (by decide) ok_Model_personMany (v_Model_personMany (by decide)) og_w1637 d_Model_monthGoes_110) d_Model_monthGoes_113 (by decide))) (og_sif (T := 132) (F := 154) (og_cand (og_cbeq (tgt := 154) (og_callVz (og_acons (og_aload_n (i := 0) (t := 15) (j := 0) (by rfl) (by rfl) d_Model_monthGoes_116) (og_acons (og_iload_n (i := 1) (j := 1) (by rfl) (by rfl) d_Model_monthGoes_117) (og_anil))) (by decide) ok_Model_isAlive (v_Model_isAlive (by decide)) og_w1641 d_Model_monthGoes_118) d_Model_monthGoes_121 (by decide)) (og_cbeq (tgt := 154) (og_callVz (og_acons (og_aload_n (i := 0) (t := 15) (j := 0) (by rfl) (by rfl) d_Model_monthGoes_124) (og_acons (og_iconst (by decide) d_Model_monthGoes_125) (og_anil))) (by decide) ok_Model_isTold (v_Model_isTold (by decide)) og_w1711 d_Model_monthGoes_126) d_Model_monthGoes_129 (by decide))) (og_iastore (N := 204) (og_f_Model_now (og_aload_n (i := 0) (t := 15) (j := 0) (by rfl) (by rfl) d_Model_monthGoes_132) og_w1192 d_Model_monthGoes_133) (by rfl) (og_iadd (og_bipush (by decide) d_Model_monthGoes_136) (og_imul (og_iconst (by decide) d_Model_monthGoes_138) (og_iload_n (i := 1) (j := 1) (by rfl) (by rfl) d_Model_monthGoes_139) d_Model_monthGoes_140) d_Model_monthGoes_141) (og_callSi (og_acons (og_callVl (og_acons (og_aload_n (i := 0) (t := 15) (j := 0) (by rfl) (by rfl) d_Model_monthGoes_142) (og_acons (og_iconst (by decide) d_Model_monthGoes_143) (og_acons (og_iload_n (i := 1) (j := 1) (by rfl) (by rfl) d_Model_monthGoes_144) (og_anil)))) (by decide) ok_Model_codesTell (v_Model_codesTell (by decide)) og_w1715 d_Model_monthGoes_145) (og_acons (og_bipush (by decide) d_Model_monthGoes_148) (og_anil))) (by decide) ok_Model_cut (v_Model_cut (by decide)) og_w1739 d_Model_monthGoes_150) d_Model_monthGoes_153) (og_sskip)) (og_gS (b' := 108) (og_iinc (j := 1) (lt' := [(0, 17), (1, 0)]) (by rfl) (by decide) (by decide) d_Model_monthGoes_154) d_Model_monthGoes_157 (by decide)))) (by decide)) (og_scut (og_sdrop (lt' := [(0, 17), (1, 0)]) (lt2 := [(0, 17)]) (og_sseq (og_istore_n (i := 1) (lt' := [(0, 17), (1, 0)]) (og_iconst (by decide) d_Model_monthGoes_160) (by rfl) (by decide) (by decide) d_Model_monthGoes_161) (og_swhile (T := 170) (F := 223) (cp0 := 217) (og_ccn og_n_lt (og_ige (tgt := 223) (og_iload_n (i := 1) (j := 1) (by rfl) (by rfl) d_Model_monthGoes_162) (og_callVi (og_acons (og_aload_n (i := 0) (t := 15) (j := 0) (by rfl) (by rfl) d_Model_monthGoes_163) (og_anil)) (by decide) ok_Model_personMany (v_Model_personMany (by decide)) og_w1637 d_Model_monthGoes_164) d_Model_monthGoes_167 (by decide))) (og_sif (T := 202) (F := 217) (og_cand (og_cand (og_cbeq (tgt := 217) (og_callVz (og_acons (og_aload_n (i := 0) (t := 15) (j := 0) (by rfl) (by rfl) d_Model_monthGoes_170) (og_acons (og_iload_n (i := 1) (j := 1) (by rfl) (by rfl) d_Model_monthGoes_171) (og_anil))) (by decide) ok_Model_isAlive (v_Model_isAlive (by decide)) og_w1641 d_Model_monthGoes_172) d_Model_monthGoes_175 (by decide)) (og_ccn og_n_eq (og_ine (tgt := 217) (og_irem (og_iald (N := 204) (og_f_Model_now (og_aload_n (i := 0) (t := 15) (j := 0) (by rfl) (by rfl) d_Model_monthGoes_178) og_w1192 d_Model_monthGoes_179) (by rfl) (og_iconst (by decide) d_Model_monthGoes_182) d_Model_monthGoes_183) (og_bipush (by decide) d_Model_monthGoes_184) d_Model_monthGoes_186) (og_bipush (by decide) d_Model_monthGoes_187) d_Model_monthGoes_189 (by decide)))) (og_ccn og_n_lt (og_ige (tgt := 217) (og_callVi (og_acons (og_aload_n (i := 0) (t := 15) (j := 0) (by rfl) (by rfl) d_Model_monthGoes_192) (og_acons (og_iload_n (i := 1) (j := 1) (by rfl) (by rfl) d_Model_monthGoes_193) (og_anil))) (by decide) ok_Model_ageOf (v_Model_ageOf (by decide)) og_w1694 d_Model_monthGoes_194) (og_bipush (by decide) d_Model_monthGoes_197) d_Model_monthGoes_199 (by decide)))) (og_aadd (N := 204) (og_f_Model_now (og_aload_n (i := 0) (t := 15) (j := 0) (by rfl) (by rfl) d_Model_monthGoes_202) og_w1192 d_Model_monthGoes_203) (by rfl) (og_iadd (og_bipush (by decide) d_Model_monthGoes_206) (og_imul (og_iconst (by decide) d_Model_monthGoes_208) (og_iload_n (i := 1) (j := 1) (by rfl) (by rfl) d_Model_monthGoes_209) d_Model_monthGoes_210) d_Model_monthGoes_211) d_Model_monthGoes_212 d_Model_monthGoes_213 (og_iconst (by decide) d_Model_monthGoes_214) d_Model_monthGoes_215 d_Model_monthGoes_216) (og_sskip)) (og_gS (b' := 162) (og_iinc (j := 1) (lt' := [(0, 17), (1, 0)]) (by rfl) (by decide) (by decide) d_Model_monthGoes_217) d_Model_monthGoes_220 (by decide)))) (by decide)) (og_aadd (N := 204) (og_f_Model_now (og_aload_n (i := 0) (t := 15) (j := 0) (by rfl) (by rfl) d_Model_monthGoes_223) og_w1192 d_Model_monthGoes_224) (by rfl) (og_iconst (by decide) d_Model_monthGoes_227) d_Model_monthGoes_228 d_Model_monthGoes_229 (og_iconst (by decide) d_Model_monthGoes_230) d_Model_monthGoes_231 d_Model_monthGoes_232)))))))) (fun _ => d_Model_monthGoes_233)
abbrev og_c_Model_monthsGo : ByteArray := prog_14_method_54_code
abbrev og_y_Model_monthsGo : MethodName := ⟨"OpenGravesModel", "monthsGo", "(I)V"⟩
theorem v_Model_monthsGo {own : String} {idx dep : Nat} (h : 9 + 1 ≤ dep) : og_sV own idx og_y_Model_monthsGo og_c_Model_monthsGo 3 2 9 dep 13 1 := ⟨⟨12, og_sl_Model, og_T_Model, 102, rfl, by decide, rfl⟩, og_w1786, (og_memP (⟨"OpenGravesModel", "monthsGo", "(I)V"⟩, 102) (List.mem_of_getElem? (i := 114) (by decide +kernel))), og_w17, og_w1787, ⟨by decide +kernel, by decide +kernel, by decide +kernel⟩, h, by decide⟩
theorem d_Model_monthsGo_0 : decode og_c_Model_monthsGo 0 = .ok (.aload_n 0, 1) := by decide +kernel
theorem d_Model_monthsGo_1 : decode og_c_Model_monthsGo 1 = .ok (.iconst 0, 1) := by decide +kernel
theorem d_Model_monthsGo_2 : decode og_c_Model_monthsGo 2 = .ok (.putfield 465, 3) := by decide +kernel
theorem d_Model_monthsGo_5 : decode og_c_Model_monthsGo 5 = .ok (.iconst 0, 1) := by decide +kernel
theorem d_Model_monthsGo_6 : decode og_c_Model_monthsGo 6 = .ok (.istore_n 2, 1) := by decide +kernel
theorem d_Model_monthsGo_7 : decode og_c_Model_monthsGo 7 = .ok (.iload_n 2, 1) := by decide +kernel
theorem d_Model_monthsGo_8 : decode og_c_Model_monthsGo 8 = .ok (.iload_n 1, 1) := by decide +kernel
theorem d_Model_monthsGo_9 : decode og_c_Model_monthsGo 9 = .ok (.if_icmp .ge 13, 3) := by decide +kernel
theorem d_Model_monthsGo_12 : decode og_c_Model_monthsGo 12 = .ok (.aload_n 0, 1) := by decide +kernel
theorem d_Model_monthsGo_13 : decode og_c_Model_monthsGo 13 = .ok (.invokevirtual 468, 3) := by decide +kernel
theorem d_Model_monthsGo_16 : decode og_c_Model_monthsGo 16 = .ok (.iinc 2 1, 3) := by decide +kernel
theorem d_Model_monthsGo_19 : decode og_c_Model_monthsGo 19 = .ok (.goto (-12), 3) := by decide +kernel
theorem d_Model_monthsGo_22 : decode og_c_Model_monthsGo 22 = .ok (.return_, 1) := by decide +kernel
def m_Model_monthsGo : og_Dn := og_den [17, 0] 3 2 (og_seq (og_putf 54 (og_loc 0) (og_k 0)) (og_seq (og_set 2 (og_k 0)) (og_while (og_cc og_rlt (og_loc 2) (og_loc 1)) (og_exp (og_call m_Model_monthGoes [og_loc 0])) (og_inc 2 1))))
set_option maxRecDepth 20000 in
theorem ok_Model_monthsGo : og_MOK og_y_Model_monthsGo og_c_Model_monthsGo 3 2 9 [17, 0] m_Model_monthsGo := og_method (b := 22) (lt' := [(0, 17), (1, 0)]) (by decide +kernel) (by decide) (by decide) (og_sseq (og_p_Model_takenMany (og_aload_n (i := 0) (t := 15) (j := 0) (by rfl) (by rfl) d_Model_monthsGo_0) (og_iconst (by decide) d_Model_monthsGo_1) og_w1197 d_Model_monthsGo_2) (og_sdrop (lt' := [(0, 17), (1, 0), (2, 0)]) (lt2 := [(0, 17), (1, 0)]) (og_sseq (og_istore_n (i := 2) (lt' := [(0, 17), (1, 0), (2, 0)]) (og_iconst (by decide) d_Model_monthsGo_5) (by rfl) (by decide) (by decide) d_Model_monthsGo_6) (og_swhile (T := 12) (F := 22) (cp0 := 16) (og_ccn og_n_lt (og_ige (tgt := 22) (og_iload_n (i := 2) (j := 2) (by rfl) (by rfl) d_Model_monthsGo_7) (og_iload_n (i := 1) (j := 1) (by rfl) (by rfl) d_Model_monthsGo_8) d_Model_monthsGo_9 (by decide))) (og_callVv (og_acons (og_aload_n (i := 0) (t := 15) (j := 0) (by rfl) (by rfl) d_Model_monthsGo_12) (og_anil)) ok_Model_monthGoes (v_Model_monthGoes (by decide)) og_w1788 d_Model_monthsGo_13) (og_gS (b' := 7) (og_iinc (j := 2) (lt' := [(0, 17), (1, 0), (2, 0)]) (by rfl) (by decide) (by decide) d_Model_monthsGo_16) d_Model_monthsGo_19 (by decide)))) (by decide))) (fun _ => d_Model_monthsGo_22)
abbrev og_c_Model_putsAside : ByteArray := prog_14_method_55_code
abbrev og_y_Model_putsAside : MethodName := ⟨"OpenGravesModel", "putsAside", "()V"⟩
theorem v_Model_putsAside {own : String} {idx dep : Nat} (h : 1 + 1 ≤ dep) : og_sV own idx og_y_Model_putsAside og_c_Model_putsAside 2 2 1 dep 13 0 := ⟨⟨12, og_sl_Model, og_T_Model, 102, rfl, by decide, rfl⟩, og_w1782, (og_memP (⟨"OpenGravesModel", "putsAside", "()V"⟩, 102) (List.mem_of_getElem? (i := 113) (by decide +kernel))), og_w17, og_w1783, ⟨by decide +kernel, by decide +kernel, by decide +kernel⟩, h, by decide⟩
theorem d_Model_putsAside_0 : decode og_c_Model_putsAside 0 = .ok (.aload_n 0, 1) := by decide +kernel
theorem d_Model_putsAside_1 : decode og_c_Model_putsAside 1 = .ok (.iconst 1, 1) := by decide +kernel
theorem d_Model_putsAside_2 : decode og_c_Model_putsAside 2 = .ok (.putfield 438, 3) := by decide +kernel
theorem d_Model_putsAside_5 : decode og_c_Model_putsAside 5 = .ok (.iconst 0, 1) := by decide +kernel
theorem d_Model_putsAside_6 : decode og_c_Model_putsAside 6 = .ok (.istore_n 1, 1) := by decide +kernel
theorem d_Model_putsAside_7 : decode og_c_Model_putsAside 7 = .ok (.iload_n 1, 1) := by decide +kernel
theorem d_Model_putsAside_8 : decode og_c_Model_putsAside 8 = .ok (.bipush 43, 2) := by decide +kernel
theorem d_Model_putsAside_10 : decode og_c_Model_putsAside 10 = .ok (.if_icmp .ge 21, 3) := by decide +kernel
theorem d_Model_putsAside_13 : decode og_c_Model_putsAside 13 = .ok (.aload_n 0, 1) := by decide +kernel
theorem d_Model_putsAside_14 : decode og_c_Model_putsAside 14 = .ok (.getfield 127, 3) := by decide +kernel
theorem d_Model_putsAside_17 : decode og_c_Model_putsAside 17 = .ok (.iload_n 1, 1) := by decide +kernel
theorem d_Model_putsAside_18 : decode og_c_Model_putsAside 18 = .ok (.aload_n 0, 1) := by decide +kernel
theorem d_Model_putsAside_19 : decode og_c_Model_putsAside 19 = .ok (.getfield 124, 3) := by decide +kernel
theorem d_Model_putsAside_22 : decode og_c_Model_putsAside 22 = .ok (.iload_n 1, 1) := by decide +kernel
theorem d_Model_putsAside_23 : decode og_c_Model_putsAside 23 = .ok (.iaload, 1) := by decide +kernel
theorem d_Model_putsAside_24 : decode og_c_Model_putsAside 24 = .ok (.iastore, 1) := by decide +kernel
theorem d_Model_putsAside_25 : decode og_c_Model_putsAside 25 = .ok (.iinc 1 1, 3) := by decide +kernel
theorem d_Model_putsAside_28 : decode og_c_Model_putsAside 28 = .ok (.goto (-21), 3) := by decide +kernel
theorem d_Model_putsAside_31 : decode og_c_Model_putsAside 31 = .ok (.return_, 1) := by decide +kernel
def m_Model_putsAside : og_Dn := og_den [17] 2 2 (og_seq (og_putz 53 (og_loc 0) (og_k 1)) (og_seq (og_set 1 (og_k 0)) (og_while (og_cc og_rlt (og_loc 1) (og_k 43)) (og_ast 43 (og_fix (fun _ => 1038) (og_loc 0)) (og_loc 1) (og_ald 204 (og_fix (fun _ => 1037) (og_loc 0)) (og_loc 1))) (og_inc 1 1))))
set_option maxRecDepth 20000 in
theorem ok_Model_putsAside : og_MOK og_y_Model_putsAside og_c_Model_putsAside 2 2 1 [17] m_Model_putsAside := og_method (b := 31) (lt' := [(0, 17)]) (by decide +kernel) (by decide) (by decide) (og_sseq (og_p_Model_isThought (og_aload_n (i := 0) (t := 15) (j := 0) (by rfl) (by rfl) d_Model_putsAside_0) (og_iconst (by decide) d_Model_putsAside_1) og_w1196 d_Model_putsAside_2) (og_sdrop (lt' := [(0, 17), (1, 0)]) (lt2 := [(0, 17)]) (og_sseq (og_istore_n (i := 1) (lt' := [(0, 17), (1, 0)]) (og_iconst (by decide) d_Model_putsAside_5) (by rfl) (by decide) (by decide) d_Model_putsAside_6) (og_swhile (T := 13) (F := 31) (cp0 := 25) (og_ccn og_n_lt (og_ige (tgt := 31) (og_iload_n (i := 1) (j := 1) (by rfl) (by rfl) d_Model_putsAside_7) (og_bipush (by decide) d_Model_putsAside_8) d_Model_putsAside_10 (by decide))) (og_iastore (N := 43) (og_f_Model_aside (og_aload_n (i := 0) (t := 15) (j := 0) (by rfl) (by rfl) d_Model_putsAside_13) og_w1193 d_Model_putsAside_14) (by rfl) (og_iload_n (i := 1) (j := 1) (by rfl) (by rfl) d_Model_putsAside_17) (og_iald (N := 204) (og_f_Model_now (og_aload_n (i := 0) (t := 15) (j := 0) (by rfl) (by rfl) d_Model_putsAside_18) og_w1192 d_Model_putsAside_19) (by rfl) (og_iload_n (i := 1) (j := 1) (by rfl) (by rfl) d_Model_putsAside_22) d_Model_putsAside_23) d_Model_putsAside_24) (og_gS (b' := 7) (og_iinc (j := 1) (lt' := [(0, 17), (1, 0)]) (by rfl) (by decide) (by decide) d_Model_putsAside_25) d_Model_putsAside_28 (by decide)))) (by decide))) (fun _ => d_Model_putsAside_31)
abbrev og_c_Model_triesAnew : ByteArray := prog_14_method_56_code
abbrev og_y_Model_triesAnew : MethodName := ⟨"OpenGravesModel", "triesAnew", "()V"⟩
theorem v_Model_triesAnew {own : String} {idx dep : Nat} (h : 1 + 1 ≤ dep) : og_sV own idx og_y_Model_triesAnew og_c_Model_triesAnew 2 2 1 dep 13 0 := ⟨⟨12, og_sl_Model, og_T_Model, 102, rfl, by decide, rfl⟩, og_w1814, (og_memP (⟨"OpenGravesModel", "triesAnew", "()V"⟩, 102) (List.mem_of_getElem? (i := 121) (by decide +kernel))), og_w17, og_w1815, ⟨by decide +kernel, by decide +kernel, by decide +kernel⟩, h, by decide⟩
theorem d_Model_triesAnew_0 : decode og_c_Model_triesAnew 0 = .ok (.iconst 0, 1) := by decide +kernel
theorem d_Model_triesAnew_1 : decode og_c_Model_triesAnew 1 = .ok (.istore_n 1, 1) := by decide +kernel
theorem d_Model_triesAnew_2 : decode og_c_Model_triesAnew 2 = .ok (.iload_n 1, 1) := by decide +kernel
theorem d_Model_triesAnew_3 : decode og_c_Model_triesAnew 3 = .ok (.bipush 43, 2) := by decide +kernel
theorem d_Model_triesAnew_5 : decode og_c_Model_triesAnew 5 = .ok (.if_icmp .ge 21, 3) := by decide +kernel
theorem d_Model_triesAnew_8 : decode og_c_Model_triesAnew 8 = .ok (.aload_n 0, 1) := by decide +kernel
theorem d_Model_triesAnew_9 : decode og_c_Model_triesAnew 9 = .ok (.getfield 124, 3) := by decide +kernel
theorem d_Model_triesAnew_12 : decode og_c_Model_triesAnew 12 = .ok (.iload_n 1, 1) := by decide +kernel
theorem d_Model_triesAnew_13 : decode og_c_Model_triesAnew 13 = .ok (.aload_n 0, 1) := by decide +kernel
theorem d_Model_triesAnew_14 : decode og_c_Model_triesAnew 14 = .ok (.getfield 127, 3) := by decide +kernel
theorem d_Model_triesAnew_17 : decode og_c_Model_triesAnew 17 = .ok (.iload_n 1, 1) := by decide +kernel
theorem d_Model_triesAnew_18 : decode og_c_Model_triesAnew 18 = .ok (.iaload, 1) := by decide +kernel
theorem d_Model_triesAnew_19 : decode og_c_Model_triesAnew 19 = .ok (.iastore, 1) := by decide +kernel
theorem d_Model_triesAnew_20 : decode og_c_Model_triesAnew 20 = .ok (.iinc 1 1, 3) := by decide +kernel
theorem d_Model_triesAnew_23 : decode og_c_Model_triesAnew 23 = .ok (.goto (-21), 3) := by decide +kernel
theorem d_Model_triesAnew_26 : decode og_c_Model_triesAnew 26 = .ok (.return_, 1) := by decide +kernel
def m_Model_triesAnew : og_Dn := og_den [17] 2 2 (og_seq (og_set 1 (og_k 0)) (og_while (og_cc og_rlt (og_loc 1) (og_k 43)) (og_ast 204 (og_fix (fun _ => 1037) (og_loc 0)) (og_loc 1) (og_ald 43 (og_fix (fun _ => 1038) (og_loc 0)) (og_loc 1))) (og_inc 1 1)))
set_option maxRecDepth 20000 in
theorem ok_Model_triesAnew : og_MOK og_y_Model_triesAnew og_c_Model_triesAnew 2 2 1 [17] m_Model_triesAnew := og_method (b := 26) (lt' := [(0, 17)]) (by decide +kernel) (by decide) (by decide) (og_sdrop (lt' := [(0, 17), (1, 0)]) (lt2 := [(0, 17)]) (og_sseq (og_istore_n (i := 1) (lt' := [(0, 17), (1, 0)]) (og_iconst (by decide) d_Model_triesAnew_0) (by rfl) (by decide) (by decide) d_Model_triesAnew_1) (og_swhile (T := 8) (F := 26) (cp0 := 20) (og_ccn og_n_lt (og_ige (tgt := 26) (og_iload_n (i := 1) (j := 1) (by rfl) (by rfl) d_Model_triesAnew_2) (og_bipush (by decide) d_Model_triesAnew_3) d_Model_triesAnew_5 (by decide))) (og_iastore (N := 204) (og_f_Model_now (og_aload_n (i := 0) (t := 15) (j := 0) (by rfl) (by rfl) d_Model_triesAnew_8) og_w1192 d_Model_triesAnew_9) (by rfl) (og_iload_n (i := 1) (j := 1) (by rfl) (by rfl) d_Model_triesAnew_12) (og_iald (N := 43) (og_f_Model_aside (og_aload_n (i := 0) (t := 15) (j := 0) (by rfl) (by rfl) d_Model_triesAnew_13) og_w1193 d_Model_triesAnew_14) (by rfl) (og_iload_n (i := 1) (j := 1) (by rfl) (by rfl) d_Model_triesAnew_17) d_Model_triesAnew_18) d_Model_triesAnew_19) (og_gS (b' := 2) (og_iinc (j := 1) (lt' := [(0, 17), (1, 0)]) (by rfl) (by decide) (by decide) d_Model_triesAnew_20) d_Model_triesAnew_23 (by decide)))) (by decide)) (fun _ => d_Model_triesAnew_26)
abbrev og_c_Model_takesBack : ByteArray := prog_14_method_57_code
abbrev og_y_Model_takesBack : MethodName := ⟨"OpenGravesModel", "takesBack", "()V"⟩
theorem v_Model_takesBack {own : String} {idx dep : Nat} (h : 2 + 1 ≤ dep) : og_sV own idx og_y_Model_takesBack og_c_Model_takesBack 1 2 2 dep 13 0 := ⟨⟨12, og_sl_Model, og_T_Model, 102, rfl, by decide, rfl⟩, og_w1810, (og_memP (⟨"OpenGravesModel", "takesBack", "()V"⟩, 102) (List.mem_of_getElem? (i := 120) (by decide +kernel))), og_w17, og_w1811, ⟨by decide +kernel, by decide +kernel, by decide +kernel⟩, h, by decide⟩
theorem d_Model_takesBack_0 : decode og_c_Model_takesBack 0 = .ok (.aload_n 0, 1) := by decide +kernel
theorem d_Model_takesBack_1 : decode og_c_Model_takesBack 1 = .ok (.invokevirtual 471, 3) := by decide +kernel
theorem d_Model_takesBack_4 : decode og_c_Model_takesBack 4 = .ok (.aload_n 0, 1) := by decide +kernel
theorem d_Model_takesBack_5 : decode og_c_Model_takesBack 5 = .ok (.iconst 0, 1) := by decide +kernel
theorem d_Model_takesBack_6 : decode og_c_Model_takesBack 6 = .ok (.putfield 438, 3) := by decide +kernel
theorem d_Model_takesBack_9 : decode og_c_Model_takesBack 9 = .ok (.return_, 1) := by decide +kernel
def m_Model_takesBack : og_Dn := og_den [17] 1 2 (og_seq (og_exp (og_call m_Model_triesAnew [og_loc 0])) (og_putz 53 (og_loc 0) (og_k 0)))
set_option maxRecDepth 20000 in
theorem ok_Model_takesBack : og_MOK og_y_Model_takesBack og_c_Model_takesBack 1 2 2 [17] m_Model_takesBack := og_method (b := 9) (lt' := [(0, 17)]) (by decide +kernel) (by decide) (by decide) (og_sseq (og_callVv (og_acons (og_aload_n (i := 0) (t := 15) (j := 0) (by rfl) (by rfl) d_Model_takesBack_0) (og_anil)) ok_Model_triesAnew (v_Model_triesAnew (by decide)) og_w1812 d_Model_takesBack_1) (og_p_Model_isThought (og_aload_n (i := 0) (t := 15) (j := 0) (by rfl) (by rfl) d_Model_takesBack_4) (og_iconst (by decide) d_Model_takesBack_5) og_w1196 d_Model_takesBack_6)) (fun _ => d_Model_takesBack_9)
abbrev og_c_Model_isAhead : ByteArray := prog_14_method_58_code
abbrev og_y_Model_isAhead : MethodName := ⟨"OpenGravesModel", "isAhead", "(III)Z"⟩
theorem v_Model_isAhead {own : String} {idx dep : Nat} (h : 2 + 1 ≤ dep) : og_sV own idx og_y_Model_isAhead og_c_Model_isAhead 4 3 2 dep 13 3 := ⟨⟨12, og_sl_Model, og_T_Model, 102, rfl, by decide, rfl⟩, og_w1778, (og_memP (⟨"OpenGravesModel", "isAhead", "(III)Z"⟩, 102) (List.mem_of_getElem? (i := 112) (by decide +kernel))), og_w17, og_w1779, ⟨by decide +kernel, by decide +kernel, by decide +kernel⟩, h, by decide⟩
theorem d_Model_isAhead_0 : decode og_c_Model_isAhead 0 = .ok (.iload_n 1, 1) := by decide +kernel
theorem d_Model_isAhead_1 : decode og_c_Model_isAhead 1 = .ok (.i2l, 1) := by decide +kernel
theorem d_Model_isAhead_2 : decode og_c_Model_isAhead 2 = .ok (.iload_n 2, 1) := by decide +kernel
theorem d_Model_isAhead_3 : decode og_c_Model_isAhead 3 = .ok (.i2l, 1) := by decide +kernel
theorem d_Model_isAhead_4 : decode og_c_Model_isAhead 4 = .ok (.iload_n 3, 1) := by decide +kernel
theorem d_Model_isAhead_5 : decode og_c_Model_isAhead 5 = .ok (.i2l, 1) := by decide +kernel
theorem d_Model_isAhead_6 : decode og_c_Model_isAhead 6 = .ok (.invokestatic 285, 3) := by decide +kernel
theorem d_Model_isAhead_9 : decode og_c_Model_isAhead 9 = .ok (.ifCond .eq 21, 3) := by decide +kernel
theorem d_Model_isAhead_12 : decode og_c_Model_isAhead 12 = .ok (.aload_n 0, 1) := by decide +kernel
theorem d_Model_isAhead_13 : decode og_c_Model_isAhead 13 = .ok (.getfield 124, 3) := by decide +kernel
theorem d_Model_isAhead_16 : decode og_c_Model_isAhead 16 = .ok (.iconst 0, 1) := by decide +kernel
theorem d_Model_isAhead_17 : decode og_c_Model_isAhead 17 = .ok (.iaload, 1) := by decide +kernel
theorem d_Model_isAhead_18 : decode og_c_Model_isAhead 18 = .ok (.iload_n 1, 1) := by decide +kernel
theorem d_Model_isAhead_19 : decode og_c_Model_isAhead 19 = .ok (.iadd, 1) := by decide +kernel
theorem d_Model_isAhead_20 : decode og_c_Model_isAhead 20 = .ok (.sipush 999, 3) := by decide +kernel
theorem d_Model_isAhead_23 : decode og_c_Model_isAhead 23 = .ok (.if_icmp .gt 7, 3) := by decide +kernel
theorem d_Model_isAhead_26 : decode og_c_Model_isAhead 26 = .ok (.iconst 1, 1) := by decide +kernel
theorem d_Model_isAhead_27 : decode og_c_Model_isAhead 27 = .ok (.goto 4, 3) := by decide +kernel
theorem d_Model_isAhead_30 : decode og_c_Model_isAhead 30 = .ok (.iconst 0, 1) := by decide +kernel
theorem d_Model_isAhead_31 : decode og_c_Model_isAhead 31 = .ok (.ireturn, 1) := by decide +kernel
def m_Model_isAhead : og_Dn := og_den [17, 0, 0, 0] 4 3 (og_retz (og_ec (og_and (og_cb (og_call m_Model_isIn [og_i2l (og_loc 1), og_i2l (og_loc 2), og_i2l (og_loc 3)])) (og_cc og_rle (og_add (og_ald 204 (og_fix (fun _ => 1037) (og_loc 0)) (og_k 0)) (og_loc 1)) (og_k 999)))))
set_option maxRecDepth 20000 in
theorem ok_Model_isAhead : og_MOK og_y_Model_isAhead og_c_Model_isAhead 4 3 2 [17, 0, 0, 0] m_Model_isAhead := og_method (b := 0) (lt' := []) (by decide +kernel) (by decide) (by decide) (og_sretz (og_econd (b := 0) (og_cand (og_cbeq (tgt := 30) (og_callSz (og_acons (og_i2l_ (og_iload_n (i := 1) (j := 1) (by rfl) (by rfl) d_Model_isAhead_0) d_Model_isAhead_1) (og_acons (og_i2l_ (og_iload_n (i := 2) (j := 2) (by rfl) (by rfl) d_Model_isAhead_2) d_Model_isAhead_3) (og_acons (og_i2l_ (og_iload_n (i := 3) (j := 3) (by rfl) (by rfl) d_Model_isAhead_4) d_Model_isAhead_5) (og_anil)))) (by decide) ok_Model_isIn (v_Model_isIn (by decide)) og_w1520 d_Model_isAhead_6) d_Model_isAhead_9 (by decide)) (og_ccn og_n_le (og_igt (tgt := 30) (og_iadd (og_iald (N := 204) (og_f_Model_now (og_aload_n (i := 0) (t := 15) (j := 0) (by rfl) (by rfl) d_Model_isAhead_12) og_w1192 d_Model_isAhead_13) (by rfl) (og_iconst (by decide) d_Model_isAhead_16) d_Model_isAhead_17) (og_iload_n (i := 1) (j := 1) (by rfl) (by rfl) d_Model_isAhead_18) d_Model_isAhead_19) (og_sipush (by decide) d_Model_isAhead_20) d_Model_isAhead_23 (by decide)))) d_Model_isAhead_26 d_Model_isAhead_27 (by decide) d_Model_isAhead_30 (by rfl)) d_Model_isAhead_31) (fun h => by cases h)
abbrev og_c_Model_filledMany : ByteArray := prog_14_method_59_code
abbrev og_y_Model_filledMany : MethodName := ⟨"OpenGravesModel", "filledMany", "()I"⟩
theorem v_Model_filledMany {own : String} {idx dep : Nat} (h : 2 + 1 ≤ dep) : og_sV own idx og_y_Model_filledMany og_c_Model_filledMany 3 0 2 dep 13 0 := ⟨⟨12, og_sl_Model, og_T_Model, 102, rfl, by decide, rfl⟩, og_w1667, (og_memP (⟨"OpenGravesModel", "filledMany", "()I"⟩, 102) (List.mem_of_getElem? (i := 95) (by decide +kernel))), og_w17, og_w1668, ⟨by decide +kernel, by decide +kernel, by decide +kernel⟩, h, by decide⟩
theorem d_Model_filledMany_0 : decode og_c_Model_filledMany 0 = .ok (.iconst 0, 1) := by decide +kernel
theorem d_Model_filledMany_1 : decode og_c_Model_filledMany 1 = .ok (.istore_n 1, 1) := by decide +kernel
theorem d_Model_filledMany_2 : decode og_c_Model_filledMany 2 = .ok (.iconst 0, 1) := by decide +kernel
theorem d_Model_filledMany_3 : decode og_c_Model_filledMany 3 = .ok (.istore_n 2, 1) := by decide +kernel
theorem d_Model_filledMany_4 : decode og_c_Model_filledMany 4 = .ok (.iload_n 2, 1) := by decide +kernel
theorem d_Model_filledMany_5 : decode og_c_Model_filledMany 5 = .ok (.aload_n 0, 1) := by decide +kernel
theorem d_Model_filledMany_6 : decode og_c_Model_filledMany 6 = .ok (.invokevirtual 378, 3) := by decide +kernel
theorem d_Model_filledMany_9 : decode og_c_Model_filledMany 9 = .ok (.if_icmp .ge 21, 3) := by decide +kernel
theorem d_Model_filledMany_12 : decode og_c_Model_filledMany 12 = .ok (.aload_n 0, 1) := by decide +kernel
theorem d_Model_filledMany_13 : decode og_c_Model_filledMany 13 = .ok (.iload_n 2, 1) := by decide +kernel
theorem d_Model_filledMany_14 : decode og_c_Model_filledMany 14 = .ok (.invokevirtual 387, 3) := by decide +kernel
theorem d_Model_filledMany_17 : decode og_c_Model_filledMany 17 = .ok (.iconst (-1), 1) := by decide +kernel
theorem d_Model_filledMany_18 : decode og_c_Model_filledMany 18 = .ok (.if_icmp .eq 6, 3) := by decide +kernel
theorem d_Model_filledMany_21 : decode og_c_Model_filledMany 21 = .ok (.iinc 1 1, 3) := by decide +kernel
theorem d_Model_filledMany_24 : decode og_c_Model_filledMany 24 = .ok (.iinc 2 1, 3) := by decide +kernel
theorem d_Model_filledMany_27 : decode og_c_Model_filledMany 27 = .ok (.goto (-23), 3) := by decide +kernel
theorem d_Model_filledMany_30 : decode og_c_Model_filledMany 30 = .ok (.iload_n 1, 1) := by decide +kernel
theorem d_Model_filledMany_31 : decode og_c_Model_filledMany 31 = .ok (.ireturn, 1) := by decide +kernel
def m_Model_filledMany : og_Dn := og_den [17] 3 0 (og_seq (og_set 1 (og_k 0)) (og_cut (og_seq (og_set 2 (og_k 0)) (og_while (og_cc og_rlt (og_loc 2) (og_call m_Model_graveMany [og_loc 0])) (og_if (og_cc og_rne (og_call m_Model_inGrave [og_loc 0, og_loc 2]) (og_k (-1))) (og_inc 1 1) (og_skip)) (og_inc 2 1))) (og_ret (og_loc 1))))
set_option maxRecDepth 20000 in
theorem ok_Model_filledMany : og_MOK og_y_Model_filledMany og_c_Model_filledMany 3 0 2 [17] m_Model_filledMany := og_method (b := 0) (lt' := []) (by decide +kernel) (by decide) (by decide) (og_sseq (og_istore_n (i := 1) (lt' := [(0, 17), (1, 0)]) (og_iconst (by decide) d_Model_filledMany_0) (by rfl) (by decide) (by decide) d_Model_filledMany_1) (og_scut (og_sdrop (lt' := [(0, 17), (1, 0), (2, 0)]) (lt2 := [(0, 17), (1, 0)]) (og_sseq (og_istore_n (i := 2) (lt' := [(0, 17), (1, 0), (2, 0)]) (og_iconst (by decide) d_Model_filledMany_2) (by rfl) (by decide) (by decide) d_Model_filledMany_3) (og_swhile (T := 12) (F := 30) (cp0 := 24) (og_ccn og_n_lt (og_ige (tgt := 30) (og_iload_n (i := 2) (j := 2) (by rfl) (by rfl) d_Model_filledMany_4) (og_callVi (og_acons (og_aload_n (i := 0) (t := 15) (j := 0) (by rfl) (by rfl) d_Model_filledMany_5) (og_anil)) (by decide) ok_Model_graveMany (v_Model_graveMany (by decide)) og_w1649 d_Model_filledMany_6) d_Model_filledMany_9 (by decide))) (og_sif (T := 21) (F := 24) (og_ccn og_n_ne (og_ieq (tgt := 24) (og_callVi (og_acons (og_aload_n (i := 0) (t := 15) (j := 0) (by rfl) (by rfl) d_Model_filledMany_12) (og_acons (og_iload_n (i := 2) (j := 2) (by rfl) (by rfl) d_Model_filledMany_13) (og_anil))) (by decide) ok_Model_inGrave (v_Model_inGrave (by decide)) og_w1661 d_Model_filledMany_14) (og_iconst (by decide) d_Model_filledMany_17) d_Model_filledMany_18 (by decide))) (og_iinc (j := 1) (lt' := [(0, 17), (1, 0), (2, 0)]) (by rfl) (by decide) (by decide) d_Model_filledMany_21) (og_sskip)) (og_gS (b' := 4) (og_iinc (j := 2) (lt' := [(0, 17), (1, 0), (2, 0)]) (by rfl) (by decide) (by decide) d_Model_filledMany_24) d_Model_filledMany_27 (by decide)))) (by decide)) (og_sreti (og_iload_n (i := 1) (j := 1) (by rfl) (by rfl) d_Model_filledMany_30) d_Model_filledMany_31))) (fun h => by cases h)
abbrev og_c_Model_has : ByteArray := prog_14_method_60_code
abbrev og_y_Model_has : MethodName := ⟨"OpenGravesModel", "has", "(I)I"⟩
theorem v_Model_has {own : String} {idx dep : Nat} (h : 4 + 1 ≤ dep) : og_sV own idx og_y_Model_has og_c_Model_has 2 0 4 dep 13 1 := ⟨⟨12, og_sl_Model, og_T_Model, 102, rfl, by decide, rfl⟩, og_w1630, og_w1631, og_w17, og_w1632, ⟨by decide +kernel, by decide +kernel, by decide +kernel⟩, h, by decide⟩
theorem d_Model_has_0 : decode og_c_Model_has 0 = .ok (.iload_n 1, 1) := by decide +kernel
theorem d_Model_has_1 : decode og_c_Model_has 1 = .ok (.tableswitch 100 0 8 #[51, 51, 60, 67, 72, 77, 82, 90, 95], 51) := by decide +kernel
theorem d_Model_has_52 : decode og_c_Model_has 52 = .ok (.aload_n 0, 1) := by decide +kernel
theorem d_Model_has_53 : decode og_c_Model_has 53 = .ok (.getfield 96, 3) := by decide +kernel
theorem d_Model_has_56 : decode og_c_Model_has 56 = .ok (.iconst 2, 1) := by decide +kernel
theorem d_Model_has_57 : decode og_c_Model_has 57 = .ok (.iload_n 1, 1) := by decide +kernel
theorem d_Model_has_58 : decode og_c_Model_has 58 = .ok (.iadd, 1) := by decide +kernel
theorem d_Model_has_59 : decode og_c_Model_has 59 = .ok (.iaload, 1) := by decide +kernel
theorem d_Model_has_60 : decode og_c_Model_has 60 = .ok (.ireturn, 1) := by decide +kernel
theorem d_Model_has_61 : decode og_c_Model_has 61 = .ok (.aload_n 0, 1) := by decide +kernel
theorem d_Model_has_62 : decode og_c_Model_has 62 = .ok (.getfield 124, 3) := by decide +kernel
theorem d_Model_has_65 : decode og_c_Model_has 65 = .ok (.iconst 0, 1) := by decide +kernel
theorem d_Model_has_66 : decode og_c_Model_has 66 = .ok (.iaload, 1) := by decide +kernel
theorem d_Model_has_67 : decode og_c_Model_has 67 = .ok (.ireturn, 1) := by decide +kernel
theorem d_Model_has_68 : decode og_c_Model_has 68 = .ok (.aload_n 0, 1) := by decide +kernel
theorem d_Model_has_69 : decode og_c_Model_has 69 = .ok (.invokevirtual 474, 3) := by decide +kernel
theorem d_Model_has_72 : decode og_c_Model_has 72 = .ok (.ireturn, 1) := by decide +kernel
theorem d_Model_has_73 : decode og_c_Model_has 73 = .ok (.aload_n 0, 1) := by decide +kernel
theorem d_Model_has_74 : decode og_c_Model_has 74 = .ok (.invokevirtual 477, 3) := by decide +kernel
theorem d_Model_has_77 : decode og_c_Model_has 77 = .ok (.ireturn, 1) := by decide +kernel
theorem d_Model_has_78 : decode og_c_Model_has 78 = .ok (.aload_n 0, 1) := by decide +kernel
theorem d_Model_has_79 : decode og_c_Model_has 79 = .ok (.invokevirtual 480, 3) := by decide +kernel
theorem d_Model_has_82 : decode og_c_Model_has 82 = .ok (.ireturn, 1) := by decide +kernel
theorem d_Model_has_83 : decode og_c_Model_has 83 = .ok (.aload_n 0, 1) := by decide +kernel
theorem d_Model_has_84 : decode og_c_Model_has 84 = .ok (.getfield 124, 3) := by decide +kernel
theorem d_Model_has_87 : decode og_c_Model_has 87 = .ok (.bipush 43, 2) := by decide +kernel
theorem d_Model_has_89 : decode og_c_Model_has 89 = .ok (.iaload, 1) := by decide +kernel
theorem d_Model_has_90 : decode og_c_Model_has 90 = .ok (.ireturn, 1) := by decide +kernel
theorem d_Model_has_91 : decode og_c_Model_has 91 = .ok (.aload_n 0, 1) := by decide +kernel
theorem d_Model_has_92 : decode og_c_Model_has 92 = .ok (.getfield 375, 3) := by decide +kernel
theorem d_Model_has_95 : decode og_c_Model_has 95 = .ok (.ireturn, 1) := by decide +kernel
theorem d_Model_has_96 : decode og_c_Model_has 96 = .ok (.aload_n 0, 1) := by decide +kernel
theorem d_Model_has_97 : decode og_c_Model_has 97 = .ok (.getfield 372, 3) := by decide +kernel
theorem d_Model_has_100 : decode og_c_Model_has 100 = .ok (.ireturn, 1) := by decide +kernel
theorem d_Model_has_101 : decode og_c_Model_has 101 = .ok (.iconst (-1), 1) := by decide +kernel
theorem d_Model_has_102 : decode og_c_Model_has 102 = .ok (.ireturn, 1) := by decide +kernel
def m_Model_has : og_Dn := og_den [17, 0] 2 0 (og_sw (og_loc 1) (fun x => og_cs x [0, 1] (og_ret (og_ald 4 (og_fix (fun _ => 1028) (og_loc 0)) (og_add (og_k 2) (og_loc 1)))) (og_cs x [2] (og_ret (og_ald 204 (og_fix (fun _ => 1037) (og_loc 0)) (og_k 0))) (og_cs x [3] (og_ret (og_call m_Model_aliveMany [og_loc 0])) (og_cs x [4] (og_ret (og_call m_Model_askingMany [og_loc 0])) (og_cs x [5] (og_ret (og_call m_Model_filledMany [og_loc 0])) (og_cs x [6] (og_ret (og_ald 204 (og_fix (fun _ => 1037) (og_loc 0)) (og_k 43))) (og_cs x [7] (og_ret (og_get 61 (og_loc 0))) (og_cs x [8] (og_ret (og_get 65 (og_loc 0))) (og_ret (og_k (-1))))))))))))
set_option maxRecDepth 20000 in
theorem ok_Model_has : og_MOK og_y_Model_has og_c_Model_has 2 0 4 [17, 0] m_Model_has := og_method (b := 0) (lt' := []) (by decide +kernel) (by decide) (by decide) (og_stab (b1 := 0) (d := 101) (cs := [(0, 52), (1, 52), (2, 61), (3, 68), (4, 73), (5, 78), (6, 83), (7, 91), (8, 96)]) (og_iload_n (i := 1) (j := 1) (by rfl) (by rfl) d_Model_has_0) d_Model_has_1 (by decide) (by decide) (fun x => og_scs (fun hx => og_sat (by simp at hx; rcases hx with rfl | rfl <;> rfl) (og_sreti (og_iald (N := 4) (og_f_Model_many (og_aload_n (i := 0) (t := 15) (j := 0) (by rfl) (by rfl) d_Model_has_52) og_w1180 d_Model_has_53) (by rfl) (og_iadd (og_iconst (by decide) d_Model_has_56) (og_iload_n (i := 1) (j := 1) (by rfl) (by rfl) d_Model_has_57) d_Model_has_58) d_Model_has_59) d_Model_has_60)) (fun hx => og_scs (fun hx => og_sat (by simp at hx; subst hx; rfl) (og_sreti (og_iald (N := 204) (og_f_Model_now (og_aload_n (i := 0) (t := 15) (j := 0) (by rfl) (by rfl) d_Model_has_61) og_w1192 d_Model_has_62) (by rfl) (og_iconst (by decide) d_Model_has_65) d_Model_has_66) d_Model_has_67)) (fun hx => og_scs (fun hx => og_sat (by simp at hx; subst hx; rfl) (og_sreti (og_callVi (og_acons (og_aload_n (i := 0) (t := 15) (j := 0) (by rfl) (by rfl) d_Model_has_68) (og_anil)) (by decide) ok_Model_aliveMany (v_Model_aliveMany (by decide)) og_w1633 d_Model_has_69) d_Model_has_72)) (fun hx => og_scs (fun hx => og_sat (by simp at hx; subst hx; rfl) (og_sreti (og_callVi (og_acons (og_aload_n (i := 0) (t := 15) (j := 0) (by rfl) (by rfl) d_Model_has_73) (og_anil)) (by decide) ok_Model_askingMany (v_Model_askingMany (by decide)) og_w1645 d_Model_has_74) d_Model_has_77)) (fun hx => og_scs (fun hx => og_sat (by simp at hx; subst hx; rfl) (og_sreti (og_callVi (og_acons (og_aload_n (i := 0) (t := 15) (j := 0) (by rfl) (by rfl) d_Model_has_78) (og_anil)) (by decide) ok_Model_filledMany (v_Model_filledMany (by decide)) og_w1665 d_Model_has_79) d_Model_has_82)) (fun hx => og_scs (fun hx => og_sat (by simp at hx; subst hx; rfl) (og_sreti (og_iald (N := 204) (og_f_Model_now (og_aload_n (i := 0) (t := 15) (j := 0) (by rfl) (by rfl) d_Model_has_83) og_w1192 d_Model_has_84) (by rfl) (og_bipush (by decide) d_Model_has_87) d_Model_has_89) d_Model_has_90)) (fun hx => og_scs (fun hx => og_sat (by simp at hx; subst hx; rfl) (og_sreti (og_f_Model_rowMany (og_aload_n (i := 0) (t := 15) (j := 0) (by rfl) (by rfl) d_Model_has_91) og_w1204 d_Model_has_92) d_Model_has_95)) (fun hx => og_scs (fun hx => og_sat (by simp at hx; subst hx; rfl) (og_sreti (og_f_Model_undoable (og_aload_n (i := 0) (t := 15) (j := 0) (by rfl) (by rfl) d_Model_has_96) og_w1208 d_Model_has_97) d_Model_has_100)) (fun hx => og_sat (og_lkn (by simp_all)) (og_sreti (og_iconst (by decide) d_Model_has_101) d_Model_has_102))))))))))) (fun h => by cases h)
abbrev og_c_Model_letter : ByteArray := prog_14_method_61_code
abbrev og_y_Model_letter : MethodName := ⟨"OpenGravesModel", "letter", "(III)I"⟩
theorem v_Model_letter {own : String} {idx dep : Nat} (h : 2 + 1 ≤ dep) : og_sV own idx og_y_Model_letter og_c_Model_letter 9 0 2 dep 13 3 := ⟨⟨12, og_sl_Model, og_T_Model, 102, rfl, by decide, rfl⟩, og_w1670, og_w1671, og_w17, og_w1672, ⟨by decide +kernel, by decide +kernel, by decide +kernel⟩, h, by decide⟩
theorem d_Model_letter_0 : decode og_c_Model_letter 0 = .ok (.iload_n 1, 1) := by decide +kernel
theorem d_Model_letter_1 : decode og_c_Model_letter 1 = .ok (.i2l, 1) := by decide +kernel
theorem d_Model_letter_2 : decode og_c_Model_letter 2 = .ok (.lconst 0, 1) := by decide +kernel
theorem d_Model_letter_3 : decode og_c_Model_letter 3 = .ok (.lconst 1, 1) := by decide +kernel
theorem d_Model_letter_4 : decode og_c_Model_letter 4 = .ok (.invokestatic 285, 3) := by decide +kernel
theorem d_Model_letter_7 : decode og_c_Model_letter 7 = .ok (.ifCond .eq 35, 3) := by decide +kernel
theorem d_Model_letter_10 : decode og_c_Model_letter 10 = .ok (.iload_n 2, 1) := by decide +kernel
theorem d_Model_letter_11 : decode og_c_Model_letter 11 = .ok (.i2l, 1) := by decide +kernel
theorem d_Model_letter_12 : decode og_c_Model_letter 12 = .ok (.lconst 0, 1) := by decide +kernel
theorem d_Model_letter_13 : decode og_c_Model_letter 13 = .ok (.aload_n 0, 1) := by decide +kernel
theorem d_Model_letter_14 : decode og_c_Model_letter 14 = .ok (.getfield 96, 3) := by decide +kernel
theorem d_Model_letter_17 : decode og_c_Model_letter 17 = .ok (.iconst 2, 1) := by decide +kernel
theorem d_Model_letter_18 : decode og_c_Model_letter 18 = .ok (.iload_n 1, 1) := by decide +kernel
theorem d_Model_letter_19 : decode og_c_Model_letter 19 = .ok (.iadd, 1) := by decide +kernel
theorem d_Model_letter_20 : decode og_c_Model_letter 20 = .ok (.iaload, 1) := by decide +kernel
theorem d_Model_letter_21 : decode og_c_Model_letter 21 = .ok (.iconst 1, 1) := by decide +kernel
theorem d_Model_letter_22 : decode og_c_Model_letter 22 = .ok (.isub, 1) := by decide +kernel
theorem d_Model_letter_23 : decode og_c_Model_letter 23 = .ok (.i2l, 1) := by decide +kernel
theorem d_Model_letter_24 : decode og_c_Model_letter 24 = .ok (.invokestatic 285, 3) := by decide +kernel
theorem d_Model_letter_27 : decode og_c_Model_letter 27 = .ok (.ifCond .eq 15, 3) := by decide +kernel
theorem d_Model_letter_30 : decode og_c_Model_letter 30 = .ok (.iload_n 3, 1) := by decide +kernel
theorem d_Model_letter_31 : decode og_c_Model_letter 31 = .ok (.i2l, 1) := by decide +kernel
theorem d_Model_letter_32 : decode og_c_Model_letter 32 = .ok (.lconst 0, 1) := by decide +kernel
theorem d_Model_letter_33 : decode og_c_Model_letter 33 = .ok (.ldc2_w 483, 3) := by decide +kernel
theorem d_Model_letter_36 : decode og_c_Model_letter 36 = .ok (.invokestatic 285, 3) := by decide +kernel
theorem d_Model_letter_39 : decode og_c_Model_letter 39 = .ok (.ifCond .ne 5, 3) := by decide +kernel
theorem d_Model_letter_42 : decode og_c_Model_letter 42 = .ok (.iconst (-1), 1) := by decide +kernel
theorem d_Model_letter_43 : decode og_c_Model_letter 43 = .ok (.ireturn, 1) := by decide +kernel
theorem d_Model_letter_44 : decode og_c_Model_letter 44 = .ok (.aload_n 0, 1) := by decide +kernel
theorem d_Model_letter_45 : decode og_c_Model_letter 45 = .ok (.getfield 99, 3) := by decide +kernel
theorem d_Model_letter_48 : decode og_c_Model_letter 48 = .ok (.bipush 16, 2) := by decide +kernel
theorem d_Model_letter_50 : decode og_c_Model_letter 50 = .ok (.bipush 8, 2) := by decide +kernel
theorem d_Model_letter_52 : decode og_c_Model_letter 52 = .ok (.iload_n 1, 1) := by decide +kernel
theorem d_Model_letter_53 : decode og_c_Model_letter 53 = .ok (.imul, 1) := by decide +kernel
theorem d_Model_letter_54 : decode og_c_Model_letter 54 = .ok (.iadd, 1) := by decide +kernel
theorem d_Model_letter_55 : decode og_c_Model_letter 55 = .ok (.iload_n 2, 1) := by decide +kernel
theorem d_Model_letter_56 : decode og_c_Model_letter 56 = .ok (.iadd, 1) := by decide +kernel
theorem d_Model_letter_57 : decode og_c_Model_letter 57 = .ok (.laload, 1) := by decide +kernel
theorem d_Model_letter_58 : decode og_c_Model_letter 58 = .ok (.lstore 4, 2) := by decide +kernel
theorem d_Model_letter_60 : decode og_c_Model_letter 60 = .ok (.iconst 0, 1) := by decide +kernel
theorem d_Model_letter_61 : decode og_c_Model_letter 61 = .ok (.istore 6, 2) := by decide +kernel
theorem d_Model_letter_63 : decode og_c_Model_letter 63 = .ok (.lload 4, 2) := by decide +kernel
theorem d_Model_letter_65 : decode og_c_Model_letter 65 = .ok (.lstore 7, 2) := by decide +kernel
theorem d_Model_letter_67 : decode og_c_Model_letter 67 = .ok (.lload 7, 2) := by decide +kernel
theorem d_Model_letter_69 : decode og_c_Model_letter 69 = .ok (.lconst 0, 1) := by decide +kernel
theorem d_Model_letter_70 : decode og_c_Model_letter 70 = .ok (.lcmp, 1) := by decide +kernel
theorem d_Model_letter_71 : decode og_c_Model_letter 71 = .ok (.ifCond .le 17, 3) := by decide +kernel
theorem d_Model_letter_74 : decode og_c_Model_letter 74 = .ok (.iinc 6 1, 3) := by decide +kernel
theorem d_Model_letter_77 : decode og_c_Model_letter 77 = .ok (.lload 7, 2) := by decide +kernel
theorem d_Model_letter_79 : decode og_c_Model_letter 79 = .ok (.ldc2_w 296, 3) := by decide +kernel
theorem d_Model_letter_82 : decode og_c_Model_letter 82 = .ok (.ldiv, 1) := by decide +kernel
theorem d_Model_letter_83 : decode og_c_Model_letter 83 = .ok (.lstore 7, 2) := by decide +kernel
theorem d_Model_letter_85 : decode og_c_Model_letter 85 = .ok (.goto (-18), 3) := by decide +kernel
theorem d_Model_letter_88 : decode og_c_Model_letter 88 = .ok (.iload_n 3, 1) := by decide +kernel
theorem d_Model_letter_89 : decode og_c_Model_letter 89 = .ok (.iload 6, 2) := by decide +kernel
theorem d_Model_letter_91 : decode og_c_Model_letter 91 = .ok (.if_icmp .lt 5, 3) := by decide +kernel
theorem d_Model_letter_94 : decode og_c_Model_letter 94 = .ok (.iconst 0, 1) := by decide +kernel
theorem d_Model_letter_95 : decode og_c_Model_letter 95 = .ok (.ireturn, 1) := by decide +kernel
theorem d_Model_letter_96 : decode og_c_Model_letter 96 = .ok (.iload 6, 2) := by decide +kernel
theorem d_Model_letter_98 : decode og_c_Model_letter 98 = .ok (.iconst 1, 1) := by decide +kernel
theorem d_Model_letter_99 : decode og_c_Model_letter 99 = .ok (.isub, 1) := by decide +kernel
theorem d_Model_letter_100 : decode og_c_Model_letter 100 = .ok (.istore 7, 2) := by decide +kernel
theorem d_Model_letter_102 : decode og_c_Model_letter 102 = .ok (.iload 7, 2) := by decide +kernel
theorem d_Model_letter_104 : decode og_c_Model_letter 104 = .ok (.iload_n 3, 1) := by decide +kernel
theorem d_Model_letter_105 : decode og_c_Model_letter 105 = .ok (.if_icmp .le 17, 3) := by decide +kernel
theorem d_Model_letter_108 : decode og_c_Model_letter 108 = .ok (.lload 4, 2) := by decide +kernel
theorem d_Model_letter_110 : decode og_c_Model_letter 110 = .ok (.ldc2_w 296, 3) := by decide +kernel
theorem d_Model_letter_113 : decode og_c_Model_letter 113 = .ok (.ldiv, 1) := by decide +kernel
theorem d_Model_letter_114 : decode og_c_Model_letter 114 = .ok (.lstore 4, 2) := by decide +kernel
theorem d_Model_letter_116 : decode og_c_Model_letter 116 = .ok (.iinc 7 (-1), 3) := by decide +kernel
theorem d_Model_letter_119 : decode og_c_Model_letter 119 = .ok (.goto (-17), 3) := by decide +kernel
theorem d_Model_letter_122 : decode og_c_Model_letter 122 = .ok (.lload 4, 2) := by decide +kernel
theorem d_Model_letter_124 : decode og_c_Model_letter 124 = .ok (.ldc2_w 296, 3) := by decide +kernel
theorem d_Model_letter_127 : decode og_c_Model_letter 127 = .ok (.lrem, 1) := by decide +kernel
theorem d_Model_letter_128 : decode og_c_Model_letter 128 = .ok (.l2i, 1) := by decide +kernel
theorem d_Model_letter_129 : decode og_c_Model_letter 129 = .ok (.ireturn, 1) := by decide +kernel
def m_Model_letter : og_Dn := og_den [17, 0, 0, 0] 9 0 (og_seq (og_if (og_or (og_or (og_not (og_cb (og_call m_Model_isIn [og_i2l (og_loc 1), og_k 0, og_k 1]))) (og_not (og_cb (og_call m_Model_isIn [og_i2l (og_loc 2), og_k 0, og_i2l (og_sub (og_ald 4 (og_fix (fun _ => 1028) (og_loc 0)) (og_add (og_k 2) (og_loc 1))) (og_k 1))])))) (og_not (og_cb (og_call m_Model_isIn [og_i2l (og_loc 3), og_k 0, og_k 5])))) (og_ret (og_k (-1))) (og_skip)) (og_seq (og_set 4 (og_ald 32 (og_fix (fun _ => 1029) (og_loc 0)) (og_add (og_add (og_k 16) (og_mul (og_k 8) (og_loc 1))) (og_loc 2)))) (og_seq (og_set 6 (og_k 0)) (og_cut (og_seq (og_set 7 (og_loc 4)) (og_while (og_cc og_rgt (og_loc 7) (og_k 0)) (og_inc 6 1) (og_set 7 (og_ldiv (og_loc 7) (og_k 27))))) (og_seq (og_if (og_cc og_rge (og_loc 3) (og_loc 6)) (og_ret (og_k 0)) (og_skip)) (og_cut (og_seq (og_set 7 (og_sub (og_loc 6) (og_k 1))) (og_while (og_cc og_rgt (og_loc 7) (og_loc 3)) (og_set 4 (og_ldiv (og_loc 4) (og_k 27))) (og_inc 7 (-1)))) (og_ret (og_l2i (og_lrem (og_loc 4) (og_k 27))))))))))
set_option maxRecDepth 20000 in
theorem ok_Model_letter : og_MOK og_y_Model_letter og_c_Model_letter 9 0 2 [17, 0, 0, 0] m_Model_letter := og_method (b := 0) (lt' := []) (by decide +kernel) (by decide) (by decide) (og_sseq (og_sif (T := 42) (F := 44) (og_cor (og_cor (og_cnot (og_cbeq (tgt := 42) (og_callSz (og_acons (og_i2l_ (og_iload_n (i := 1) (j := 1) (by rfl) (by rfl) d_Model_letter_0) d_Model_letter_1) (og_acons (og_lconst (x := 0) d_Model_letter_2) (og_acons (og_lconst (x := 1) d_Model_letter_3) (og_anil)))) (by decide) ok_Model_isIn (v_Model_isIn (by decide)) og_w1520 d_Model_letter_4) d_Model_letter_7 (by decide))) (og_cnot (og_cbeq (tgt := 42) (og_callSz (og_acons (og_i2l_ (og_iload_n (i := 2) (j := 2) (by rfl) (by rfl) d_Model_letter_10) d_Model_letter_11) (og_acons (og_lconst (x := 0) d_Model_letter_12) (og_acons (og_i2l_ (og_isub (og_iald (N := 4) (og_f_Model_many (og_aload_n (i := 0) (t := 15) (j := 0) (by rfl) (by rfl) d_Model_letter_13) og_w1180 d_Model_letter_14) (by rfl) (og_iadd (og_iconst (by decide) d_Model_letter_17) (og_iload_n (i := 1) (j := 1) (by rfl) (by rfl) d_Model_letter_18) d_Model_letter_19) d_Model_letter_20) (og_iconst (by decide) d_Model_letter_21) d_Model_letter_22) d_Model_letter_23) (og_anil)))) (by decide) ok_Model_isIn (v_Model_isIn (by decide)) og_w1520 d_Model_letter_24) d_Model_letter_27 (by decide)))) (og_cnot (og_cbne (tgt := 44) (og_callSz (og_acons (og_i2l_ (og_iload_n (i := 3) (j := 3) (by rfl) (by rfl) d_Model_letter_30) d_Model_letter_31) (og_acons (og_lconst (x := 0) d_Model_letter_32) (og_acons (og_ldc2 (x := 5) (by decide) og_w1673 d_Model_letter_33) (og_anil)))) (by decide) ok_Model_isIn (v_Model_isIn (by decide)) og_w1520 d_Model_letter_36) d_Model_letter_39 (by decide)))) (og_sreti (og_iconst (by decide) d_Model_letter_42) d_Model_letter_43) (og_sskip)) (og_sseq (og_lstore (i := 4) (lt' := [(0, 17), (1, 0), (2, 0), (3, 0), (4, 1)]) (og_lald (N := 32) (og_f_Model_names (og_aload_n (i := 0) (t := 15) (j := 0) (by rfl) (by rfl) d_Model_letter_44) og_w1181 d_Model_letter_45) (by rfl) (og_iadd (og_iadd (og_bipush (by decide) d_Model_letter_48) (og_imul (og_bipush (by decide) d_Model_letter_50) (og_iload_n (i := 1) (j := 1) (by rfl) (by rfl) d_Model_letter_52) d_Model_letter_53) d_Model_letter_54) (og_iload_n (i := 2) (j := 2) (by rfl) (by rfl) d_Model_letter_55) d_Model_letter_56) d_Model_letter_57) (by decide) (by decide) d_Model_letter_58) (og_sseq (og_istore (i := 6) (lt' := [(0, 17), (1, 0), (2, 0), (3, 0), (4, 1), (6, 0)]) (og_iconst (by decide) d_Model_letter_60) (by decide) (by decide) d_Model_letter_61) (og_scut (og_sdrop (lt' := [(0, 17), (1, 0), (2, 0), (3, 0), (4, 1), (6, 0), (7, 1)]) (lt2 := [(0, 17), (1, 0), (2, 0), (3, 0), (4, 1), (6, 0)]) (og_sseq (og_lstore (i := 7) (lt' := [(0, 17), (1, 0), (2, 0), (3, 0), (4, 1), (6, 0), (7, 1)]) (og_lload (i := 4) (j := 4) (by rfl) d_Model_letter_63) (by decide) (by decide) d_Model_letter_65) (og_swhile (T := 74) (F := 88) (cp0 := 77) (og_ccn og_n_gt (og_lle (tgt := 88) (og_lload (i := 7) (j := 6) (by rfl) d_Model_letter_67) (og_lconst (x := 0) d_Model_letter_69) d_Model_letter_70 d_Model_letter_71 (by decide))) (og_iinc (j := 5) (lt' := [(0, 17), (1, 0), (2, 0), (3, 0), (4, 1), (6, 0), (7, 1)]) (by rfl) (by decide) (by decide) d_Model_letter_74) (og_gS (b' := 67) (og_lstore (i := 7) (lt' := [(0, 17), (1, 0), (2, 0), (3, 0), (4, 1), (6, 0), (7, 1)]) (og_ldiv_ (og_lload (i := 7) (j := 6) (by rfl) d_Model_letter_77) (og_ldc2 (x := 27) (by decide) og_w1507 d_Model_letter_79) d_Model_letter_82) (by decide) (by decide) d_Model_letter_83) d_Model_letter_85 (by decide)))) (by decide)) (og_sseq (og_sif (T := 94) (F := 96) (og_ccn og_n_ge (og_ilt (tgt := 96) (og_iload_n (i := 3) (j := 3) (by rfl) (by rfl) d_Model_letter_88) (og_iload (i := 6) (j := 5) (by rfl) d_Model_letter_89) d_Model_letter_91 (by decide))) (og_sreti (og_iconst (by decide) d_Model_letter_94) d_Model_letter_95) (og_sskip)) (og_scut (og_sdrop (lt' := [(0, 17), (1, 0), (2, 0), (3, 0), (4, 1), (6, 0), (7, 0)]) (lt2 := [(0, 17), (1, 0), (2, 0), (3, 0), (4, 1), (6, 0)]) (og_sseq (og_istore (i := 7) (lt' := [(0, 17), (1, 0), (2, 0), (3, 0), (4, 1), (6, 0), (7, 0)]) (og_isub (og_iload (i := 6) (j := 5) (by rfl) d_Model_letter_96) (og_iconst (by decide) d_Model_letter_98) d_Model_letter_99) (by decide) (by decide) d_Model_letter_100) (og_swhile (T := 108) (F := 122) (cp0 := 116) (og_ccn og_n_gt (og_ile (tgt := 122) (og_iload (i := 7) (j := 6) (by rfl) d_Model_letter_102) (og_iload_n (i := 3) (j := 3) (by rfl) (by rfl) d_Model_letter_104) d_Model_letter_105 (by decide))) (og_lstore (i := 4) (lt' := [(0, 17), (1, 0), (2, 0), (3, 0), (4, 1), (6, 0), (7, 0)]) (og_ldiv_ (og_lload (i := 4) (j := 4) (by rfl) d_Model_letter_108) (og_ldc2 (x := 27) (by decide) og_w1507 d_Model_letter_110) d_Model_letter_113) (by decide) (by decide) d_Model_letter_114) (og_gS (b' := 102) (og_iinc (j := 6) (lt' := [(0, 17), (1, 0), (2, 0), (3, 0), (4, 1), (6, 0), (7, 0)]) (by rfl) (by decide) (by decide) d_Model_letter_116) d_Model_letter_119 (by decide)))) (by decide)) (og_sreti (og_l2i_ (og_lrem_ (og_lload (i := 4) (j := 4) (by rfl) d_Model_letter_122) (og_ldc2 (x := 27) (by decide) og_w1507 d_Model_letter_124) d_Model_letter_127) d_Model_letter_128) d_Model_letter_129))))))) (fun h => by cases h)
abbrev og_c_Model_grave : ByteArray := prog_14_method_62_code
abbrev og_y_Model_grave : MethodName := ⟨"OpenGravesModel", "grave", "(II)I"⟩
theorem v_Model_grave {own : String} {idx dep : Nat} (h : 3 + 1 ≤ dep) : og_sV own idx og_y_Model_grave og_c_Model_grave 3 0 3 dep 13 2 := ⟨⟨12, og_sl_Model, og_T_Model, 102, rfl, by decide, rfl⟩, og_w1675, og_w1676, og_w17, og_w1677, ⟨by decide +kernel, by decide +kernel, by decide +kernel⟩, h, by decide⟩
theorem d_Model_grave_0 : decode og_c_Model_grave 0 = .ok (.aload_n 0, 1) := by decide +kernel
theorem d_Model_grave_1 : decode og_c_Model_grave 1 = .ok (.iload_n 1, 1) := by decide +kernel
theorem d_Model_grave_2 : decode og_c_Model_grave 2 = .ok (.i2l, 1) := by decide +kernel
theorem d_Model_grave_3 : decode og_c_Model_grave 3 = .ok (.invokevirtual 485, 3) := by decide +kernel
theorem d_Model_grave_6 : decode og_c_Model_grave 6 = .ok (.ifCond .ne 5, 3) := by decide +kernel
theorem d_Model_grave_9 : decode og_c_Model_grave 9 = .ok (.iconst (-1), 1) := by decide +kernel
theorem d_Model_grave_10 : decode og_c_Model_grave 10 = .ok (.ireturn, 1) := by decide +kernel
theorem d_Model_grave_11 : decode og_c_Model_grave 11 = .ok (.iload_n 2, 1) := by decide +kernel
theorem d_Model_grave_12 : decode og_c_Model_grave 12 = .ok (.tableswitch 78 0 4 #[36, 46, 52, 58, 64], 36) := by decide +kernel
theorem d_Model_grave_48 : decode og_c_Model_grave 48 = .ok (.aload_n 0, 1) := by decide +kernel
theorem d_Model_grave_49 : decode og_c_Model_grave 49 = .ok (.getfield 103, 3) := by decide +kernel
theorem d_Model_grave_52 : decode og_c_Model_grave 52 = .ok (.bipush 6, 2) := by decide +kernel
theorem d_Model_grave_54 : decode og_c_Model_grave 54 = .ok (.iload_n 1, 1) := by decide +kernel
theorem d_Model_grave_55 : decode og_c_Model_grave 55 = .ok (.iadd, 1) := by decide +kernel
theorem d_Model_grave_56 : decode og_c_Model_grave 56 = .ok (.iaload, 1) := by decide +kernel
theorem d_Model_grave_57 : decode og_c_Model_grave 57 = .ok (.ireturn, 1) := by decide +kernel
theorem d_Model_grave_58 : decode og_c_Model_grave 58 = .ok (.aload_n 0, 1) := by decide +kernel
theorem d_Model_grave_59 : decode og_c_Model_grave 59 = .ok (.iload_n 1, 1) := by decide +kernel
theorem d_Model_grave_60 : decode og_c_Model_grave 60 = .ok (.invokevirtual 384, 3) := by decide +kernel
theorem d_Model_grave_63 : decode og_c_Model_grave 63 = .ok (.ireturn, 1) := by decide +kernel
theorem d_Model_grave_64 : decode og_c_Model_grave 64 = .ok (.aload_n 0, 1) := by decide +kernel
theorem d_Model_grave_65 : decode og_c_Model_grave 65 = .ok (.iload_n 1, 1) := by decide +kernel
theorem d_Model_grave_66 : decode og_c_Model_grave 66 = .ok (.invokevirtual 435, 3) := by decide +kernel
theorem d_Model_grave_69 : decode og_c_Model_grave 69 = .ok (.ireturn, 1) := by decide +kernel
theorem d_Model_grave_70 : decode og_c_Model_grave 70 = .ok (.aload_n 0, 1) := by decide +kernel
theorem d_Model_grave_71 : decode og_c_Model_grave 71 = .ok (.iload_n 1, 1) := by decide +kernel
theorem d_Model_grave_72 : decode og_c_Model_grave 72 = .ok (.invokevirtual 387, 3) := by decide +kernel
theorem d_Model_grave_75 : decode og_c_Model_grave 75 = .ok (.ireturn, 1) := by decide +kernel
theorem d_Model_grave_76 : decode og_c_Model_grave 76 = .ok (.aload_n 0, 1) := by decide +kernel
theorem d_Model_grave_77 : decode og_c_Model_grave 77 = .ok (.iload_n 1, 1) := by decide +kernel
theorem d_Model_grave_78 : decode og_c_Model_grave 78 = .ok (.invokevirtual 390, 3) := by decide +kernel
theorem d_Model_grave_81 : decode og_c_Model_grave 81 = .ok (.ifCond .eq 7, 3) := by decide +kernel
theorem d_Model_grave_84 : decode og_c_Model_grave 84 = .ok (.iconst 1, 1) := by decide +kernel
theorem d_Model_grave_85 : decode og_c_Model_grave 85 = .ok (.goto 4, 3) := by decide +kernel
theorem d_Model_grave_88 : decode og_c_Model_grave 88 = .ok (.iconst 0, 1) := by decide +kernel
theorem d_Model_grave_89 : decode og_c_Model_grave 89 = .ok (.ireturn, 1) := by decide +kernel
theorem d_Model_grave_90 : decode og_c_Model_grave 90 = .ok (.iconst (-1), 1) := by decide +kernel
theorem d_Model_grave_91 : decode og_c_Model_grave 91 = .ok (.ireturn, 1) := by decide +kernel
def m_Model_grave : og_Dn := og_den [17, 0, 0] 3 0 (og_seq (og_if (og_not (og_cb (og_call m_Model_isGrave [og_loc 0, og_i2l (og_loc 1)]))) (og_ret (og_k (-1))) (og_skip)) (og_sw (og_loc 2) (fun x => og_cs x [0] (og_ret (og_ald 12 (og_fix (fun _ => 1030) (og_loc 0)) (og_add (og_k 6) (og_loc 1)))) (og_cs x [1] (og_ret (og_call m_Model_deepOf [og_loc 0, og_loc 1])) (og_cs x [2] (og_ret (og_call m_Model_dueOf [og_loc 0, og_loc 1])) (og_cs x [3] (og_ret (og_call m_Model_inGrave [og_loc 0, og_loc 1])) (og_cs x [4] (og_ret (og_ei (og_cb (og_call m_Model_doesAsk [og_loc 0, og_loc 1])) (og_k 1) (og_k 0))) (og_ret (og_k (-1))))))))))
set_option maxRecDepth 20000 in
theorem ok_Model_grave : og_MOK og_y_Model_grave og_c_Model_grave 3 0 3 [17, 0, 0] m_Model_grave := og_method (b := 0) (lt' := []) (by decide +kernel) (by decide) (by decide) (og_sseq (og_sif (T := 9) (F := 11) (og_cnot (og_cbne (tgt := 11) (og_callVz (og_acons (og_aload_n (i := 0) (t := 15) (j := 0) (by rfl) (by rfl) d_Model_grave_0) (og_acons (og_i2l_ (og_iload_n (i := 1) (j := 1) (by rfl) (by rfl) d_Model_grave_1) d_Model_grave_2) (og_anil))) (by decide) ok_Model_isGrave (v_Model_isGrave (by decide)) og_w1678 d_Model_grave_3) d_Model_grave_6 (by decide))) (og_sreti (og_iconst (by decide) d_Model_grave_9) d_Model_grave_10) (og_sskip)) (og_stab (b1 := 0) (d := 90) (cs := [(0, 48), (1, 58), (2, 64), (3, 70), (4, 76)]) (og_iload_n (i := 2) (j := 2) (by rfl) (by rfl) d_Model_grave_11) d_Model_grave_12 (by decide) (by decide) (fun x => og_scs (fun hx => og_sat (by simp at hx; subst hx; rfl) (og_sreti (og_iald (N := 12) (og_f_Model_longs (og_aload_n (i := 0) (t := 15) (j := 0) (by rfl) (by rfl) d_Model_grave_48) og_w1182 d_Model_grave_49) (by rfl) (og_iadd (og_bipush (by decide) d_Model_grave_52) (og_iload_n (i := 1) (j := 1) (by rfl) (by rfl) d_Model_grave_54) d_Model_grave_55) d_Model_grave_56) d_Model_grave_57)) (fun hx => og_scs (fun hx => og_sat (by simp at hx; subst hx; rfl) (og_sreti (og_callVi (og_acons (og_aload_n (i := 0) (t := 15) (j := 0) (by rfl) (by rfl) d_Model_grave_58) (og_acons (og_iload_n (i := 1) (j := 1) (by rfl) (by rfl) d_Model_grave_59) (og_anil))) (by decide) ok_Model_deepOf (v_Model_deepOf (by decide)) og_w1657 d_Model_grave_60) d_Model_grave_63)) (fun hx => og_scs (fun hx => og_sat (by simp at hx; subst hx; rfl) (og_sreti (og_callVi (og_acons (og_aload_n (i := 0) (t := 15) (j := 0) (by rfl) (by rfl) d_Model_grave_64) (og_acons (og_iload_n (i := 1) (j := 1) (by rfl) (by rfl) d_Model_grave_65) (og_anil))) (by decide) ok_Model_dueOf (v_Model_dueOf (by decide)) og_w1682 d_Model_grave_66) d_Model_grave_69)) (fun hx => og_scs (fun hx => og_sat (by simp at hx; subst hx; rfl) (og_sreti (og_callVi (og_acons (og_aload_n (i := 0) (t := 15) (j := 0) (by rfl) (by rfl) d_Model_grave_70) (og_acons (og_iload_n (i := 1) (j := 1) (by rfl) (by rfl) d_Model_grave_71) (og_anil))) (by decide) ok_Model_inGrave (v_Model_inGrave (by decide)) og_w1661 d_Model_grave_72) d_Model_grave_75)) (fun hx => og_scs (fun hx => og_sat (by simp at hx; subst hx; rfl) (og_sreti (og_eite (og_cbeq (tgt := 88) (og_callVz (og_acons (og_aload_n (i := 0) (t := 15) (j := 0) (by rfl) (by rfl) d_Model_grave_76) (og_acons (og_iload_n (i := 1) (j := 1) (by rfl) (by rfl) d_Model_grave_77) (og_anil))) (by decide) ok_Model_doesAsk (v_Model_doesAsk (by decide)) og_w1653 d_Model_grave_78) d_Model_grave_81 (by decide)) (og_iconst (by decide) d_Model_grave_84) d_Model_grave_85 (by decide) (og_iconst (by decide) d_Model_grave_88)) d_Model_grave_89)) (fun hx => og_sat (og_lkn (by simp_all)) (og_sreti (og_iconst (by decide) d_Model_grave_90) d_Model_grave_91))))))))) (fun h => by cases h)
abbrev og_c_Model_person : ByteArray := prog_14_method_63_code
abbrev og_y_Model_person : MethodName := ⟨"OpenGravesModel", "person", "(II)I"⟩
theorem v_Model_person {own : String} {idx dep : Nat} (h : 3 + 1 ≤ dep) : og_sV own idx og_y_Model_person og_c_Model_person 3 0 3 dep 13 2 := ⟨⟨12, og_sl_Model, og_T_Model, 102, rfl, by decide, rfl⟩, og_w1687, og_w1688, og_w17, og_w1689, ⟨by decide +kernel, by decide +kernel, by decide +kernel⟩, h, by decide⟩
theorem d_Model_person_0 : decode og_c_Model_person 0 = .ok (.aload_n 0, 1) := by decide +kernel
theorem d_Model_person_1 : decode og_c_Model_person 1 = .ok (.iload_n 1, 1) := by decide +kernel
theorem d_Model_person_2 : decode og_c_Model_person 2 = .ok (.invokevirtual 489, 3) := by decide +kernel
theorem d_Model_person_5 : decode og_c_Model_person 5 = .ok (.ifCond .ne 5, 3) := by decide +kernel
theorem d_Model_person_8 : decode og_c_Model_person 8 = .ok (.iconst (-1), 1) := by decide +kernel
theorem d_Model_person_9 : decode og_c_Model_person 9 = .ok (.ireturn, 1) := by decide +kernel
theorem d_Model_person_10 : decode og_c_Model_person 10 = .ok (.iload_n 2, 1) := by decide +kernel
theorem d_Model_person_11 : decode og_c_Model_person 11 = .ok (.tableswitch 63 0 3 #[29, 39, 45, 51], 29) := by decide +kernel
theorem d_Model_person_40 : decode og_c_Model_person 40 = .ok (.aload_n 0, 1) := by decide +kernel
theorem d_Model_person_41 : decode og_c_Model_person 41 = .ok (.getfield 106, 3) := by decide +kernel
theorem d_Model_person_44 : decode og_c_Model_person 44 = .ok (.bipush 8, 2) := by decide +kernel
theorem d_Model_person_46 : decode og_c_Model_person 46 = .ok (.iload_n 1, 1) := by decide +kernel
theorem d_Model_person_47 : decode og_c_Model_person 47 = .ok (.iadd, 1) := by decide +kernel
theorem d_Model_person_48 : decode og_c_Model_person 48 = .ok (.iaload, 1) := by decide +kernel
theorem d_Model_person_49 : decode og_c_Model_person 49 = .ok (.ireturn, 1) := by decide +kernel
theorem d_Model_person_50 : decode og_c_Model_person 50 = .ok (.aload_n 0, 1) := by decide +kernel
theorem d_Model_person_51 : decode og_c_Model_person 51 = .ok (.iload_n 1, 1) := by decide +kernel
theorem d_Model_person_52 : decode og_c_Model_person 52 = .ok (.invokevirtual 419, 3) := by decide +kernel
theorem d_Model_person_55 : decode og_c_Model_person 55 = .ok (.ireturn, 1) := by decide +kernel
theorem d_Model_person_56 : decode og_c_Model_person 56 = .ok (.aload_n 0, 1) := by decide +kernel
theorem d_Model_person_57 : decode og_c_Model_person 57 = .ok (.iload_n 1, 1) := by decide +kernel
theorem d_Model_person_58 : decode og_c_Model_person 58 = .ok (.invokevirtual 426, 3) := by decide +kernel
theorem d_Model_person_61 : decode og_c_Model_person 61 = .ok (.ireturn, 1) := by decide +kernel
theorem d_Model_person_62 : decode og_c_Model_person 62 = .ok (.aload_n 0, 1) := by decide +kernel
theorem d_Model_person_63 : decode og_c_Model_person 63 = .ok (.getfield 124, 3) := by decide +kernel
theorem d_Model_person_66 : decode og_c_Model_person 66 = .ok (.bipush 19, 2) := by decide +kernel
theorem d_Model_person_68 : decode og_c_Model_person 68 = .ok (.iconst 3, 1) := by decide +kernel
theorem d_Model_person_69 : decode og_c_Model_person 69 = .ok (.iload_n 1, 1) := by decide +kernel
theorem d_Model_person_70 : decode og_c_Model_person 70 = .ok (.imul, 1) := by decide +kernel
theorem d_Model_person_71 : decode og_c_Model_person 71 = .ok (.iadd, 1) := by decide +kernel
theorem d_Model_person_72 : decode og_c_Model_person 72 = .ok (.iaload, 1) := by decide +kernel
theorem d_Model_person_73 : decode og_c_Model_person 73 = .ok (.ireturn, 1) := by decide +kernel
theorem d_Model_person_74 : decode og_c_Model_person 74 = .ok (.iconst (-1), 1) := by decide +kernel
theorem d_Model_person_75 : decode og_c_Model_person 75 = .ok (.ireturn, 1) := by decide +kernel
def m_Model_person : og_Dn := og_den [17, 0, 0] 3 0 (og_seq (og_if (og_not (og_cb (og_call m_Model_isPerson [og_loc 0, og_loc 1]))) (og_ret (og_k (-1))) (og_skip)) (og_sw (og_loc 2) (fun x => og_cs x [0] (og_ret (og_ald 16 (og_fix (fun _ => 1031) (og_loc 0)) (og_add (og_k 8) (og_loc 1)))) (og_cs x [1] (og_ret (og_call m_Model_ageOf [og_loc 0, og_loc 1])) (og_cs x [2] (og_ret (og_call m_Model_willOf [og_loc 0, og_loc 1])) (og_cs x [3] (og_ret (og_ald 204 (og_fix (fun _ => 1037) (og_loc 0)) (og_add (og_k 19) (og_mul (og_k 3) (og_loc 1))))) (og_ret (og_k (-1)))))))))
set_option maxRecDepth 20000 in
theorem ok_Model_person : og_MOK og_y_Model_person og_c_Model_person 3 0 3 [17, 0, 0] m_Model_person := og_method (b := 0) (lt' := []) (by decide +kernel) (by decide) (by decide) (og_sseq (og_sif (T := 8) (F := 10) (og_cnot (og_cbne (tgt := 10) (og_callVz (og_acons (og_aload_n (i := 0) (t := 15) (j := 0) (by rfl) (by rfl) d_Model_person_0) (og_acons (og_iload_n (i := 1) (j := 1) (by rfl) (by rfl) d_Model_person_1) (og_anil))) (by decide) ok_Model_isPerson (v_Model_isPerson (by decide)) og_w1690 d_Model_person_2) d_Model_person_5 (by decide))) (og_sreti (og_iconst (by decide) d_Model_person_8) d_Model_person_9) (og_sskip)) (og_stab (b1 := 0) (d := 74) (cs := [(0, 40), (1, 50), (2, 56), (3, 62)]) (og_iload_n (i := 2) (j := 2) (by rfl) (by rfl) d_Model_person_10) d_Model_person_11 (by decide) (by decide) (fun x => og_scs (fun hx => og_sat (by simp at hx; subst hx; rfl) (og_sreti (og_iald (N := 16) (og_f_Model_talls (og_aload_n (i := 0) (t := 15) (j := 0) (by rfl) (by rfl) d_Model_person_40) og_w1183 d_Model_person_41) (by rfl) (og_iadd (og_bipush (by decide) d_Model_person_44) (og_iload_n (i := 1) (j := 1) (by rfl) (by rfl) d_Model_person_46) d_Model_person_47) d_Model_person_48) d_Model_person_49)) (fun hx => og_scs (fun hx => og_sat (by simp at hx; subst hx; rfl) (og_sreti (og_callVi (og_acons (og_aload_n (i := 0) (t := 15) (j := 0) (by rfl) (by rfl) d_Model_person_50) (og_acons (og_iload_n (i := 1) (j := 1) (by rfl) (by rfl) d_Model_person_51) (og_anil))) (by decide) ok_Model_ageOf (v_Model_ageOf (by decide)) og_w1694 d_Model_person_52) d_Model_person_55)) (fun hx => og_scs (fun hx => og_sat (by simp at hx; subst hx; rfl) (og_sreti (og_callVi (og_acons (og_aload_n (i := 0) (t := 15) (j := 0) (by rfl) (by rfl) d_Model_person_56) (og_acons (og_iload_n (i := 1) (j := 1) (by rfl) (by rfl) d_Model_person_57) (og_anil))) (by decide) ok_Model_willOf (v_Model_willOf (by decide)) og_w1698 d_Model_person_58) d_Model_person_61)) (fun hx => og_scs (fun hx => og_sat (by simp at hx; subst hx; rfl) (og_sreti (og_iald (N := 204) (og_f_Model_now (og_aload_n (i := 0) (t := 15) (j := 0) (by rfl) (by rfl) d_Model_person_62) og_w1192 d_Model_person_63) (by rfl) (og_iadd (og_bipush (by decide) d_Model_person_66) (og_imul (og_iconst (by decide) d_Model_person_68) (og_iload_n (i := 1) (j := 1) (by rfl) (by rfl) d_Model_person_69) d_Model_person_70) d_Model_person_71) d_Model_person_72) d_Model_person_73)) (fun hx => og_sat (og_lkn (by simp_all)) (og_sreti (og_iconst (by decide) d_Model_person_74) d_Model_person_75)))))))) (fun h => by cases h)
abbrev og_c_Model_counts : ByteArray := prog_14_method_64_code
abbrev og_y_Model_counts : MethodName := ⟨"OpenGravesModel", "counts", "(II)J"⟩
theorem v_Model_counts {own : String} {idx dep : Nat} (h : 7 + 1 ≤ dep) : og_sV own idx og_y_Model_counts og_c_Model_counts 3 1 7 dep 13 2 := ⟨⟨12, og_sl_Model, og_T_Model, 102, rfl, by decide, rfl⟩, og_w1703, og_w1704, og_w17, og_w1705, ⟨by decide +kernel, by decide +kernel, by decide +kernel⟩, h, by decide⟩
theorem d_Model_counts_0 : decode og_c_Model_counts 0 = .ok (.aload_n 0, 1) := by decide +kernel
theorem d_Model_counts_1 : decode og_c_Model_counts 1 = .ok (.iload_n 1, 1) := by decide +kernel
theorem d_Model_counts_2 : decode og_c_Model_counts 2 = .ok (.invokevirtual 489, 3) := by decide +kernel
theorem d_Model_counts_5 : decode og_c_Model_counts 5 = .ok (.ifCond .ne 7, 3) := by decide +kernel
theorem d_Model_counts_8 : decode og_c_Model_counts 8 = .ok (.ldc2_w 492, 3) := by decide +kernel
theorem d_Model_counts_11 : decode og_c_Model_counts 11 = .ok (.lreturn, 1) := by decide +kernel
theorem d_Model_counts_12 : decode og_c_Model_counts 12 = .ok (.iload_n 2, 1) := by decide +kernel
theorem d_Model_counts_13 : decode og_c_Model_counts 13 = .ok (.ifCond .ne 12, 3) := by decide +kernel
theorem d_Model_counts_16 : decode og_c_Model_counts 16 = .ok (.aload_n 0, 1) := by decide +kernel
theorem d_Model_counts_17 : decode og_c_Model_counts 17 = .ok (.iload_n 1, 1) := by decide +kernel
theorem d_Model_counts_18 : decode og_c_Model_counts 18 = .ok (.invokevirtual 494, 3) := by decide +kernel
theorem d_Model_counts_21 : decode og_c_Model_counts 21 = .ok (.i2l, 1) := by decide +kernel
theorem d_Model_counts_22 : decode og_c_Model_counts 22 = .ok (.goto 33, 3) := by decide +kernel
theorem d_Model_counts_25 : decode og_c_Model_counts 25 = .ok (.iload_n 2, 1) := by decide +kernel
theorem d_Model_counts_26 : decode og_c_Model_counts 26 = .ok (.iconst 1, 1) := by decide +kernel
theorem d_Model_counts_27 : decode og_c_Model_counts 27 = .ok (.if_icmp .ne 11, 3) := by decide +kernel
theorem d_Model_counts_30 : decode og_c_Model_counts 30 = .ok (.aload_n 0, 1) := by decide +kernel
theorem d_Model_counts_31 : decode og_c_Model_counts 31 = .ok (.iload_n 1, 1) := by decide +kernel
theorem d_Model_counts_32 : decode og_c_Model_counts 32 = .ok (.invokevirtual 452, 3) := by decide +kernel
theorem d_Model_counts_35 : decode og_c_Model_counts 35 = .ok (.goto 20, 3) := by decide +kernel
theorem d_Model_counts_38 : decode og_c_Model_counts 38 = .ok (.iload_n 2, 1) := by decide +kernel
theorem d_Model_counts_39 : decode og_c_Model_counts 39 = .ok (.iconst 2, 1) := by decide +kernel
theorem d_Model_counts_40 : decode og_c_Model_counts 40 = .ok (.if_icmp .ne 12, 3) := by decide +kernel
theorem d_Model_counts_43 : decode og_c_Model_counts 43 = .ok (.aload_n 0, 1) := by decide +kernel
theorem d_Model_counts_44 : decode og_c_Model_counts 44 = .ok (.iload_n 1, 1) := by decide +kernel
theorem d_Model_counts_45 : decode og_c_Model_counts 45 = .ok (.invokevirtual 497, 3) := by decide +kernel
theorem d_Model_counts_48 : decode og_c_Model_counts 48 = .ok (.i2l, 1) := by decide +kernel
theorem d_Model_counts_49 : decode og_c_Model_counts 49 = .ok (.goto 6, 3) := by decide +kernel
theorem d_Model_counts_52 : decode og_c_Model_counts 52 = .ok (.ldc2_w 492, 3) := by decide +kernel
theorem d_Model_counts_55 : decode og_c_Model_counts 55 = .ok (.lreturn, 1) := by decide +kernel
def m_Model_counts : og_Dn := og_den [17, 0, 0] 3 1 (og_seq (og_if (og_not (og_cb (og_call m_Model_isPerson [og_loc 0, og_loc 1]))) (og_ret (og_k (-1000000000000000))) (og_skip)) (og_ret (og_ei (og_cc og_req (og_loc 2) (og_k 0)) (og_i2l (og_call m_Model_diesOf [og_loc 0, og_loc 1])) (og_ei (og_cc og_req (og_loc 2) (og_k 1)) (og_call m_Model_takesOf [og_loc 0, og_loc 1]) (og_ei (og_cc og_req (og_loc 2) (og_k 2)) (og_i2l (og_call m_Model_harmOf [og_loc 0, og_loc 1])) (og_k (-1000000000000000)))))))
set_option maxRecDepth 20000 in
theorem ok_Model_counts : og_MOK og_y_Model_counts og_c_Model_counts 3 1 7 [17, 0, 0] m_Model_counts := og_method (b := 0) (lt' := []) (by decide +kernel) (by decide) (by decide) (og_sseq (og_sif (T := 8) (F := 12) (og_cnot (og_cbne (tgt := 12) (og_callVz (og_acons (og_aload_n (i := 0) (t := 15) (j := 0) (by rfl) (by rfl) d_Model_counts_0) (og_acons (og_iload_n (i := 1) (j := 1) (by rfl) (by rfl) d_Model_counts_1) (og_anil))) (by decide) ok_Model_isPerson (v_Model_isPerson (by decide)) og_w1690 d_Model_counts_2) d_Model_counts_5 (by decide))) (og_sretl (og_ldc2 (x := (-1000000000000000)) (by decide) og_w1706 d_Model_counts_8) d_Model_counts_11) (og_sskip)) (og_sretl (og_eite (og_ccn og_n_eq (og_zne (tgt := 25) (og_iload_n (i := 2) (j := 2) (by rfl) (by rfl) d_Model_counts_12) d_Model_counts_13 (by decide))) (og_i2l_ (og_callVi (og_acons (og_aload_n (i := 0) (t := 15) (j := 0) (by rfl) (by rfl) d_Model_counts_16) (og_acons (og_iload_n (i := 1) (j := 1) (by rfl) (by rfl) d_Model_counts_17) (og_anil))) (by decide) ok_Model_diesOf (v_Model_diesOf (by decide)) og_w1707 d_Model_counts_18) d_Model_counts_21) d_Model_counts_22 (by decide) (og_eite (og_ccn og_n_eq (og_ine (tgt := 38) (og_iload_n (i := 2) (j := 2) (by rfl) (by rfl) d_Model_counts_25) (og_iconst (by decide) d_Model_counts_26) d_Model_counts_27 (by decide))) (og_callVl (og_acons (og_aload_n (i := 0) (t := 15) (j := 0) (by rfl) (by rfl) d_Model_counts_30) (og_acons (og_iload_n (i := 1) (j := 1) (by rfl) (by rfl) d_Model_counts_31) (og_anil))) (by decide) ok_Model_takesOf (v_Model_takesOf (by decide)) og_w1742 d_Model_counts_32) d_Model_counts_35 (by decide) (og_eite (og_ccn og_n_eq (og_ine (tgt := 52) (og_iload_n (i := 2) (j := 2) (by rfl) (by rfl) d_Model_counts_38) (og_iconst (by decide) d_Model_counts_39) d_Model_counts_40 (by decide))) (og_i2l_ (og_callVi (og_acons (og_aload_n (i := 0) (t := 15) (j := 0) (by rfl) (by rfl) d_Model_counts_43) (og_acons (og_iload_n (i := 1) (j := 1) (by rfl) (by rfl) d_Model_counts_44) (og_anil))) (by decide) ok_Model_harmOf (v_Model_harmOf (by decide)) og_w1746 d_Model_counts_45) d_Model_counts_48) d_Model_counts_49 (by decide) (og_ldc2 (x := (-1000000000000000)) (by decide) og_w1706 d_Model_counts_52)))) d_Model_counts_55)) (fun h => by cases h)
abbrev og_c_Model_isLiving : ByteArray := prog_14_method_65_code
abbrev og_y_Model_isLiving : MethodName := ⟨"OpenGravesModel", "isLiving", "(I)Z"⟩
theorem v_Model_isLiving {own : String} {idx dep : Nat} (h : 3 + 1 ≤ dep) : og_sV own idx og_y_Model_isLiving og_c_Model_isLiving 2 3 3 dep 13 1 := ⟨⟨12, og_sl_Model, og_T_Model, 102, rfl, by decide, rfl⟩, og_w1757, (og_memP (⟨"OpenGravesModel", "isLiving", "(I)Z"⟩, 102) (List.mem_of_getElem? (i := 109) (by decide +kernel))), og_w17, og_w1758, ⟨by decide +kernel, by decide +kernel, by decide +kernel⟩, h, by decide⟩
theorem d_Model_isLiving_0 : decode og_c_Model_isLiving 0 = .ok (.aload_n 0, 1) := by decide +kernel
theorem d_Model_isLiving_1 : decode og_c_Model_isLiving 1 = .ok (.iload_n 1, 1) := by decide +kernel
theorem d_Model_isLiving_2 : decode og_c_Model_isLiving 2 = .ok (.invokevirtual 489, 3) := by decide +kernel
theorem d_Model_isLiving_5 : decode og_c_Model_isLiving 5 = .ok (.ifCond .eq 15, 3) := by decide +kernel
theorem d_Model_isLiving_8 : decode og_c_Model_isLiving 8 = .ok (.aload_n 0, 1) := by decide +kernel
theorem d_Model_isLiving_9 : decode og_c_Model_isLiving 9 = .ok (.iload_n 1, 1) := by decide +kernel
theorem d_Model_isLiving_10 : decode og_c_Model_isLiving 10 = .ok (.invokevirtual 393, 3) := by decide +kernel
theorem d_Model_isLiving_13 : decode og_c_Model_isLiving 13 = .ok (.ifCond .eq 7, 3) := by decide +kernel
theorem d_Model_isLiving_16 : decode og_c_Model_isLiving 16 = .ok (.iconst 1, 1) := by decide +kernel
theorem d_Model_isLiving_17 : decode og_c_Model_isLiving 17 = .ok (.goto 4, 3) := by decide +kernel
theorem d_Model_isLiving_20 : decode og_c_Model_isLiving 20 = .ok (.iconst 0, 1) := by decide +kernel
theorem d_Model_isLiving_21 : decode og_c_Model_isLiving 21 = .ok (.ireturn, 1) := by decide +kernel
def m_Model_isLiving : og_Dn := og_den [17, 0] 2 3 (og_retz (og_ec (og_and (og_cb (og_call m_Model_isPerson [og_loc 0, og_loc 1])) (og_cb (og_call m_Model_isAlive [og_loc 0, og_loc 1])))))
set_option maxRecDepth 20000 in
theorem ok_Model_isLiving : og_MOK og_y_Model_isLiving og_c_Model_isLiving 2 3 3 [17, 0] m_Model_isLiving := og_method (b := 0) (lt' := []) (by decide +kernel) (by decide) (by decide) (og_sretz (og_econd (b := 0) (og_cand (og_cbeq (tgt := 20) (og_callVz (og_acons (og_aload_n (i := 0) (t := 15) (j := 0) (by rfl) (by rfl) d_Model_isLiving_0) (og_acons (og_iload_n (i := 1) (j := 1) (by rfl) (by rfl) d_Model_isLiving_1) (og_anil))) (by decide) ok_Model_isPerson (v_Model_isPerson (by decide)) og_w1690 d_Model_isLiving_2) d_Model_isLiving_5 (by decide)) (og_cbeq (tgt := 20) (og_callVz (og_acons (og_aload_n (i := 0) (t := 15) (j := 0) (by rfl) (by rfl) d_Model_isLiving_8) (og_acons (og_iload_n (i := 1) (j := 1) (by rfl) (by rfl) d_Model_isLiving_9) (og_anil))) (by decide) ok_Model_isAlive (v_Model_isAlive (by decide)) og_w1641 d_Model_isLiving_10) d_Model_isLiving_13 (by decide))) d_Model_isLiving_16 d_Model_isLiving_17 (by decide) d_Model_isLiving_20 (by rfl)) d_Model_isLiving_21) (fun h => by cases h)
abbrev og_c_Model_next : ByteArray := prog_14_method_66_code
abbrev og_y_Model_next : MethodName := ⟨"OpenGravesModel", "next", "(I)I"⟩
theorem v_Model_next {own : String} {idx dep : Nat} (h : 4 + 1 ≤ dep) : og_sV own idx og_y_Model_next og_c_Model_next 2 0 4 dep 13 1 := ⟨⟨12, og_sl_Model, og_T_Model, 102, rfl, by decide, rfl⟩, og_w1752, og_w1753, og_w17, og_w1754, ⟨by decide +kernel, by decide +kernel, by decide +kernel⟩, h, by decide⟩
theorem d_Model_next_0 : decode og_c_Model_next 0 = .ok (.aload_n 0, 1) := by decide +kernel
theorem d_Model_next_1 : decode og_c_Model_next 1 = .ok (.iload_n 1, 1) := by decide +kernel
theorem d_Model_next_2 : decode og_c_Model_next 2 = .ok (.invokevirtual 500, 3) := by decide +kernel
theorem d_Model_next_5 : decode og_c_Model_next 5 = .ok (.ifCond .eq 11, 3) := by decide +kernel
theorem d_Model_next_8 : decode og_c_Model_next 8 = .ok (.aload_n 0, 1) := by decide +kernel
theorem d_Model_next_9 : decode og_c_Model_next 9 = .ok (.iload_n 1, 1) := by decide +kernel
theorem d_Model_next_10 : decode og_c_Model_next 10 = .ok (.invokevirtual 445, 3) := by decide +kernel
theorem d_Model_next_13 : decode og_c_Model_next 13 = .ok (.goto 4, 3) := by decide +kernel
theorem d_Model_next_16 : decode og_c_Model_next 16 = .ok (.iconst (-1), 1) := by decide +kernel
theorem d_Model_next_17 : decode og_c_Model_next 17 = .ok (.ireturn, 1) := by decide +kernel
def m_Model_next : og_Dn := og_den [17, 0] 2 0 (og_ret (og_ei (og_cb (og_call m_Model_isLiving [og_loc 0, og_loc 1])) (og_call m_Model_nextFor [og_loc 0, og_loc 1]) (og_k (-1))))
set_option maxRecDepth 20000 in
theorem ok_Model_next : og_MOK og_y_Model_next og_c_Model_next 2 0 4 [17, 0] m_Model_next := og_method (b := 0) (lt' := []) (by decide +kernel) (by decide) (by decide) (og_sreti (og_eite (og_cbeq (tgt := 16) (og_callVz (og_acons (og_aload_n (i := 0) (t := 15) (j := 0) (by rfl) (by rfl) d_Model_next_0) (og_acons (og_iload_n (i := 1) (j := 1) (by rfl) (by rfl) d_Model_next_1) (og_anil))) (by decide) ok_Model_isLiving (v_Model_isLiving (by decide)) og_w1755 d_Model_next_2) d_Model_next_5 (by decide)) (og_callVi (og_acons (og_aload_n (i := 0) (t := 15) (j := 0) (by rfl) (by rfl) d_Model_next_8) (og_acons (og_iload_n (i := 1) (j := 1) (by rfl) (by rfl) d_Model_next_9) (og_anil))) (by decide) ok_Model_nextFor (v_Model_nextFor (by decide)) og_w1759 d_Model_next_10) d_Model_next_13 (by decide) (og_iconst (by decide) d_Model_next_16)) d_Model_next_17) (fun h => by cases h)
abbrev og_c_Model_kept : ByteArray := prog_14_method_67_code
abbrev og_y_Model_kept : MethodName := ⟨"OpenGravesModel", "kept", "(II)I"⟩
theorem v_Model_kept {own : String} {idx dep : Nat} (h : 2 + 1 ≤ dep) : og_sV own idx og_y_Model_kept og_c_Model_kept 3 0 2 dep 13 2 := ⟨⟨12, og_sl_Model, og_T_Model, 102, rfl, by decide, rfl⟩, og_w1768, og_w1769, og_w17, og_w1770, ⟨by decide +kernel, by decide +kernel, by decide +kernel⟩, h, by decide⟩
theorem d_Model_kept_0 : decode og_c_Model_kept 0 = .ok (.iload_n 1, 1) := by decide +kernel
theorem d_Model_kept_1 : decode og_c_Model_kept 1 = .ok (.i2l, 1) := by decide +kernel
theorem d_Model_kept_2 : decode og_c_Model_kept 2 = .ok (.lconst 0, 1) := by decide +kernel
theorem d_Model_kept_3 : decode og_c_Model_kept 3 = .ok (.aload_n 0, 1) := by decide +kernel
theorem d_Model_kept_4 : decode og_c_Model_kept 4 = .ok (.getfield 124, 3) := by decide +kernel
theorem d_Model_kept_7 : decode og_c_Model_kept 7 = .ok (.bipush 43, 2) := by decide +kernel
theorem d_Model_kept_9 : decode og_c_Model_kept 9 = .ok (.iaload, 1) := by decide +kernel
theorem d_Model_kept_10 : decode og_c_Model_kept 10 = .ok (.iconst 1, 1) := by decide +kernel
theorem d_Model_kept_11 : decode og_c_Model_kept 11 = .ok (.isub, 1) := by decide +kernel
theorem d_Model_kept_12 : decode og_c_Model_kept 12 = .ok (.i2l, 1) := by decide +kernel
theorem d_Model_kept_13 : decode og_c_Model_kept 13 = .ok (.invokestatic 285, 3) := by decide +kernel
theorem d_Model_kept_16 : decode og_c_Model_kept 16 = .ok (.ifCond .eq 31, 3) := by decide +kernel
theorem d_Model_kept_19 : decode og_c_Model_kept 19 = .ok (.iload_n 2, 1) := by decide +kernel
theorem d_Model_kept_20 : decode og_c_Model_kept 20 = .ok (.i2l, 1) := by decide +kernel
theorem d_Model_kept_21 : decode og_c_Model_kept 21 = .ok (.lconst 0, 1) := by decide +kernel
theorem d_Model_kept_22 : decode og_c_Model_kept 22 = .ok (.ldc2_w 503, 3) := by decide +kernel
theorem d_Model_kept_25 : decode og_c_Model_kept 25 = .ok (.invokestatic 285, 3) := by decide +kernel
theorem d_Model_kept_28 : decode og_c_Model_kept 28 = .ok (.ifCond .eq 19, 3) := by decide +kernel
theorem d_Model_kept_31 : decode og_c_Model_kept 31 = .ok (.aload_n 0, 1) := by decide +kernel
theorem d_Model_kept_32 : decode og_c_Model_kept 32 = .ok (.getfield 124, 3) := by decide +kernel
theorem d_Model_kept_35 : decode og_c_Model_kept 35 = .ok (.bipush 44, 2) := by decide +kernel
theorem d_Model_kept_37 : decode og_c_Model_kept 37 = .ok (.iconst 4, 1) := by decide +kernel
theorem d_Model_kept_38 : decode og_c_Model_kept 38 = .ok (.iload_n 1, 1) := by decide +kernel
theorem d_Model_kept_39 : decode og_c_Model_kept 39 = .ok (.imul, 1) := by decide +kernel
theorem d_Model_kept_40 : decode og_c_Model_kept 40 = .ok (.iadd, 1) := by decide +kernel
theorem d_Model_kept_41 : decode og_c_Model_kept 41 = .ok (.iload_n 2, 1) := by decide +kernel
theorem d_Model_kept_42 : decode og_c_Model_kept 42 = .ok (.iadd, 1) := by decide +kernel
theorem d_Model_kept_43 : decode og_c_Model_kept 43 = .ok (.iaload, 1) := by decide +kernel
theorem d_Model_kept_44 : decode og_c_Model_kept 44 = .ok (.goto 4, 3) := by decide +kernel
theorem d_Model_kept_47 : decode og_c_Model_kept 47 = .ok (.iconst (-1), 1) := by decide +kernel
theorem d_Model_kept_48 : decode og_c_Model_kept 48 = .ok (.ireturn, 1) := by decide +kernel
def m_Model_kept : og_Dn := og_den [17, 0, 0] 3 0 (og_ret (og_ei (og_and (og_cb (og_call m_Model_isIn [og_i2l (og_loc 1), og_k 0, og_i2l (og_sub (og_ald 204 (og_fix (fun _ => 1037) (og_loc 0)) (og_k 43)) (og_k 1))])) (og_cb (og_call m_Model_isIn [og_i2l (og_loc 2), og_k 0, og_k 3]))) (og_ald 204 (og_fix (fun _ => 1037) (og_loc 0)) (og_add (og_add (og_k 44) (og_mul (og_k 4) (og_loc 1))) (og_loc 2))) (og_k (-1))))
set_option maxRecDepth 20000 in
theorem ok_Model_kept : og_MOK og_y_Model_kept og_c_Model_kept 3 0 2 [17, 0, 0] m_Model_kept := og_method (b := 0) (lt' := []) (by decide +kernel) (by decide) (by decide) (og_sreti (og_eite (og_cand (og_cbeq (tgt := 47) (og_callSz (og_acons (og_i2l_ (og_iload_n (i := 1) (j := 1) (by rfl) (by rfl) d_Model_kept_0) d_Model_kept_1) (og_acons (og_lconst (x := 0) d_Model_kept_2) (og_acons (og_i2l_ (og_isub (og_iald (N := 204) (og_f_Model_now (og_aload_n (i := 0) (t := 15) (j := 0) (by rfl) (by rfl) d_Model_kept_3) og_w1192 d_Model_kept_4) (by rfl) (og_bipush (by decide) d_Model_kept_7) d_Model_kept_9) (og_iconst (by decide) d_Model_kept_10) d_Model_kept_11) d_Model_kept_12) (og_anil)))) (by decide) ok_Model_isIn (v_Model_isIn (by decide)) og_w1520 d_Model_kept_13) d_Model_kept_16 (by decide)) (og_cbeq (tgt := 47) (og_callSz (og_acons (og_i2l_ (og_iload_n (i := 2) (j := 2) (by rfl) (by rfl) d_Model_kept_19) d_Model_kept_20) (og_acons (og_lconst (x := 0) d_Model_kept_21) (og_acons (og_ldc2 (x := 3) (by decide) og_w1771 d_Model_kept_22) (og_anil)))) (by decide) ok_Model_isIn (v_Model_isIn (by decide)) og_w1520 d_Model_kept_25) d_Model_kept_28 (by decide))) (og_iald (N := 204) (og_f_Model_now (og_aload_n (i := 0) (t := 15) (j := 0) (by rfl) (by rfl) d_Model_kept_31) og_w1192 d_Model_kept_32) (by rfl) (og_iadd (og_iadd (og_bipush (by decide) d_Model_kept_35) (og_imul (og_iconst (by decide) d_Model_kept_37) (og_iload_n (i := 1) (j := 1) (by rfl) (by rfl) d_Model_kept_38) d_Model_kept_39) d_Model_kept_40) (og_iload_n (i := 2) (j := 2) (by rfl) (by rfl) d_Model_kept_41) d_Model_kept_42) d_Model_kept_43) d_Model_kept_44 (by decide) (og_iconst (by decide) d_Model_kept_47)) d_Model_kept_48) (fun h => by cases h)
