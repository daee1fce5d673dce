abbrev og_c_OG_grave : ByteArray := prog_1_method_8_code
abbrev og_y_OG_grave : MethodName := ⟨"OpenGraves", "grave", "(II)I"⟩
theorem v_OG_grave {own : String} {idx dep : Nat} (h : 2 + 1 ≤ dep) : og_sV own idx og_y_OG_grave og_c_OG_grave 3 0 2 dep 1 2 := ⟨⟨0, og_sl_OG, og_T_OG, 17, rfl, by decide, rfl⟩, og_w725, og_w726, og_w1, og_w727, ⟨by decide +kernel, by decide +kernel, by decide +kernel⟩, h, by decide⟩
theorem d_OG_grave_0 : decode og_c_OG_grave 0 = .ok (.aload_n 0, 1) := by decide +kernel
theorem d_OG_grave_1 : decode og_c_OG_grave 1 = .ok (.getfield 90, 3) := by decide +kernel
theorem d_OG_grave_4 : decode og_c_OG_grave 4 = .ok (.iload_n 1, 1) := by decide +kernel
theorem d_OG_grave_5 : decode og_c_OG_grave 5 = .ok (.invokevirtual 167, 3) := by decide +kernel
theorem d_OG_grave_8 : decode og_c_OG_grave 8 = .ok (.ifCond .ne 5, 3) := by decide +kernel
theorem d_OG_grave_11 : decode og_c_OG_grave 11 = .ok (.iconst (-1), 1) := by decide +kernel
theorem d_OG_grave_12 : decode og_c_OG_grave 12 = .ok (.ireturn, 1) := by decide +kernel
theorem d_OG_grave_13 : decode og_c_OG_grave 13 = .ok (.iload_n 2, 1) := by decide +kernel
theorem d_OG_grave_14 : decode og_c_OG_grave 14 = .ok (.tableswitch 91 0 4 #[34, 44, 54, 64, 74], 34) := by decide +kernel
theorem d_OG_grave_48 : decode og_c_OG_grave 48 = .ok (.aload_n 0, 1) := by decide +kernel
theorem d_OG_grave_49 : decode og_c_OG_grave 49 = .ok (.getfield 90, 3) := by decide +kernel
theorem d_OG_grave_52 : decode og_c_OG_grave 52 = .ok (.getfield 178, 3) := by decide +kernel
theorem d_OG_grave_55 : decode og_c_OG_grave 55 = .ok (.iload_n 1, 1) := by decide +kernel
theorem d_OG_grave_56 : decode og_c_OG_grave 56 = .ok (.iaload, 1) := by decide +kernel
theorem d_OG_grave_57 : decode og_c_OG_grave 57 = .ok (.ireturn, 1) := by decide +kernel
theorem d_OG_grave_58 : decode og_c_OG_grave 58 = .ok (.aload_n 0, 1) := by decide +kernel
theorem d_OG_grave_59 : decode og_c_OG_grave 59 = .ok (.getfield 90, 3) := by decide +kernel
theorem d_OG_grave_62 : decode og_c_OG_grave 62 = .ok (.getfield 181, 3) := by decide +kernel
theorem d_OG_grave_65 : decode og_c_OG_grave 65 = .ok (.iload_n 1, 1) := by decide +kernel
theorem d_OG_grave_66 : decode og_c_OG_grave 66 = .ok (.iaload, 1) := by decide +kernel
theorem d_OG_grave_67 : decode og_c_OG_grave 67 = .ok (.ireturn, 1) := by decide +kernel
theorem d_OG_grave_68 : decode og_c_OG_grave 68 = .ok (.aload_n 0, 1) := by decide +kernel
theorem d_OG_grave_69 : decode og_c_OG_grave 69 = .ok (.getfield 90, 3) := by decide +kernel
theorem d_OG_grave_72 : decode og_c_OG_grave 72 = .ok (.getfield 184, 3) := by decide +kernel
theorem d_OG_grave_75 : decode og_c_OG_grave 75 = .ok (.iload_n 1, 1) := by decide +kernel
theorem d_OG_grave_76 : decode og_c_OG_grave 76 = .ok (.iaload, 1) := by decide +kernel
theorem d_OG_grave_77 : decode og_c_OG_grave 77 = .ok (.ireturn, 1) := by decide +kernel
theorem d_OG_grave_78 : decode og_c_OG_grave 78 = .ok (.aload_n 0, 1) := by decide +kernel
theorem d_OG_grave_79 : decode og_c_OG_grave 79 = .ok (.getfield 90, 3) := by decide +kernel
theorem d_OG_grave_82 : decode og_c_OG_grave 82 = .ok (.getfield 187, 3) := by decide +kernel
theorem d_OG_grave_85 : decode og_c_OG_grave 85 = .ok (.iload_n 1, 1) := by decide +kernel
theorem d_OG_grave_86 : decode og_c_OG_grave 86 = .ok (.iaload, 1) := by decide +kernel
theorem d_OG_grave_87 : decode og_c_OG_grave 87 = .ok (.ireturn, 1) := by decide +kernel
theorem d_OG_grave_88 : decode og_c_OG_grave 88 = .ok (.aload_n 0, 1) := by decide +kernel
theorem d_OG_grave_89 : decode og_c_OG_grave 89 = .ok (.getfield 90, 3) := by decide +kernel
theorem d_OG_grave_92 : decode og_c_OG_grave 92 = .ok (.iload_n 1, 1) := by decide +kernel
theorem d_OG_grave_93 : decode og_c_OG_grave 93 = .ok (.invokevirtual 190, 3) := by decide +kernel
theorem d_OG_grave_96 : decode og_c_OG_grave 96 = .ok (.ifCond .eq 7, 3) := by decide +kernel
theorem d_OG_grave_99 : decode og_c_OG_grave 99 = .ok (.iconst 1, 1) := by decide +kernel
theorem d_OG_grave_100 : decode og_c_OG_grave 100 = .ok (.goto 4, 3) := by decide +kernel
theorem d_OG_grave_103 : decode og_c_OG_grave 103 = .ok (.iconst 0, 1) := by decide +kernel
theorem d_OG_grave_104 : decode og_c_OG_grave 104 = .ok (.ireturn, 1) := by decide +kernel
theorem d_OG_grave_105 : decode og_c_OG_grave 105 = .ok (.iconst (-1), 1) := by decide +kernel
theorem d_OG_grave_106 : decode og_c_OG_grave 106 = .ok (.ireturn, 1) := by decide +kernel
def m_OG_grave : og_Dn := og_den [5, 0, 0] 3 0 (og_seq (og_if (og_not (og_cb (og_call m_Yard_isGrave [og_fix (fun _ => 100) (og_loc 0), og_loc 1]))) (og_ret (og_k (-1))) (og_skip)) (og_sw (og_loc 2) (fun x => og_cs x [0] (og_ret (og_ald 6 (og_fix (fun i => i + 1) (og_fix (fun _ => 100) (og_loc 0))) (og_loc 1))) (og_cs x [1] (og_ret (og_ald 6 (og_fix (fun i => i + 2) (og_fix (fun _ => 100) (og_loc 0))) (og_loc 1))) (og_cs x [2] (og_ret (og_ald 6 (og_fix (fun i => i + 3) (og_fix (fun _ => 100) (og_loc 0))) (og_loc 1))) (og_cs x [3] (og_ret (og_ald 6 (og_fix (fun i => i + 4) (og_fix (fun _ => 100) (og_loc 0))) (og_loc 1))) (og_cs x [4] (og_ret (og_ei (og_cb (og_call m_Yard_asks [og_fix (fun _ => 100) (og_loc 0), og_loc 1])) (og_k 1) (og_k 0))) (og_ret (og_k (-1))))))))))
set_option maxRecDepth 20000 in
theorem ok_OG_grave : og_MOK og_y_OG_grave og_c_OG_grave 3 0 2 [5, 0, 0] m_OG_grave := og_method (b := 0) (lt' := []) (by decide +kernel) (by decide) (by decide) (og_sseq (og_sif (T := 11) (F := 13) (og_cnot (og_cbne (tgt := 13) (og_callVz (og_acons (og_f_OG_now (og_aload_n (i := 0) (t := 3) (j := 0) (by rfl) (by rfl) d_OG_grave_0) og_w397 d_OG_grave_1) (og_acons (og_iload_n (i := 1) (j := 1) (by rfl) (by rfl) d_OG_grave_4) (og_anil))) (by decide) ok_Yard_isGrave (v_Yard_isGrave (by decide)) og_w712 d_OG_grave_5) d_OG_grave_8 (by decide))) (og_sreti (og_iconst (by decide) d_OG_grave_11) d_OG_grave_12) (og_sskip)) (og_stab (b1 := 0) (d := 105) (cs := [(0, 48), (1, 58), (2, 68), (3, 78), (4, 88)]) (og_iload_n (i := 2) (j := 2) (by rfl) (by rfl) d_OG_grave_13) d_OG_grave_14 (by decide) (by decide) (fun x => og_scs (fun hx => og_sat (by simp at hx; subst hx; rfl) (og_sreti (og_iald (N := 6) (og_f_Yard_length_N (og_f_OG_now (og_aload_n (i := 0) (t := 3) (j := 0) (by rfl) (by rfl) d_OG_grave_48) og_w397 d_OG_grave_49) og_w64 d_OG_grave_52) (by rfl) (og_iload_n (i := 1) (j := 1) (by rfl) (by rfl) d_OG_grave_55) d_OG_grave_56) d_OG_grave_57)) (fun hx => og_scs (fun hx => og_sat (by simp at hx; subst hx; rfl) (og_sreti (og_iald (N := 6) (og_f_Yard_deep_N (og_f_OG_now (og_aload_n (i := 0) (t := 3) (j := 0) (by rfl) (by rfl) d_OG_grave_58) og_w397 d_OG_grave_59) og_w68 d_OG_grave_62) (by rfl) (og_iload_n (i := 1) (j := 1) (by rfl) (by rfl) d_OG_grave_65) d_OG_grave_66) d_OG_grave_67)) (fun hx => og_scs (fun hx => og_sat (by simp at hx; subst hx; rfl) (og_sreti (og_iald (N := 6) (og_f_Yard_due_N (og_f_OG_now (og_aload_n (i := 0) (t := 3) (j := 0) (by rfl) (by rfl) d_OG_grave_68) og_w397 d_OG_grave_69) og_w73 d_OG_grave_72) (by rfl) (og_iload_n (i := 1) (j := 1) (by rfl) (by rfl) d_OG_grave_75) d_OG_grave_76) d_OG_grave_77)) (fun hx => og_scs (fun hx => og_sat (by simp at hx; subst hx; rfl) (og_sreti (og_iald (N := 6) (og_f_Yard_who_N (og_f_OG_now (og_aload_n (i := 0) (t := 3) (j := 0) (by rfl) (by rfl) d_OG_grave_78) og_w397 d_OG_grave_79) og_w76 d_OG_grave_82) (by rfl) (og_iload_n (i := 1) (j := 1) (by rfl) (by rfl) d_OG_grave_85) d_OG_grave_86) d_OG_grave_87)) (fun hx => og_scs (fun hx => og_sat (by simp at hx; subst hx; rfl) (og_sreti (og_eite (og_cbeq (tgt := 103) (og_callVz (og_acons (og_f_OG_now (og_aload_n (i := 0) (t := 3) (j := 0) (by rfl) (by rfl) d_OG_grave_88) og_w397 d_OG_grave_89) (og_acons (og_iload_n (i := 1) (j := 1) (by rfl) (by rfl) d_OG_grave_92) (og_anil))) (by decide) ok_Yard_asks (v_Yard_asks (by decide)) og_w728 d_OG_grave_93) d_OG_grave_96 (by decide)) (og_iconst (by decide) d_OG_grave_99) d_OG_grave_100 (by decide) (og_iconst (by decide) d_OG_grave_103)) d_OG_grave_104)) (fun hx => og_sat (og_lkn (by simp_all)) (og_sreti (og_iconst (by decide) d_OG_grave_105) d_OG_grave_106))))))))) (fun h => by cases h)
abbrev og_c_OG_person : ByteArray := prog_1_method_9_code
abbrev og_y_OG_person : MethodName := ⟨"OpenGraves", "person", "(II)I"⟩
theorem v_OG_person {own : String} {idx dep : Nat} (h : 2 + 1 ≤ dep) : og_sV own idx og_y_OG_person og_c_OG_person 3 0 2 dep 1 2 := ⟨⟨0, og_sl_OG, og_T_OG, 17, rfl, by decide, rfl⟩, og_w730, og_w731, og_w1, og_w732, ⟨by decide +kernel, by decide +kernel, by decide +kernel⟩, h, by decide⟩
theorem d_OG_person_0 : decode og_c_OG_person 0 = .ok (.aload_n 0, 1) := by decide +kernel
theorem d_OG_person_1 : decode og_c_OG_person 1 = .ok (.getfield 90, 3) := by decide +kernel
theorem d_OG_person_4 : decode og_c_OG_person 4 = .ok (.iload_n 1, 1) := by decide +kernel
theorem d_OG_person_5 : decode og_c_OG_person 5 = .ok (.invokevirtual 175, 3) := by decide +kernel
theorem d_OG_person_8 : decode og_c_OG_person 8 = .ok (.ifCond .ne 5, 3) := by decide +kernel
theorem d_OG_person_11 : decode og_c_OG_person 11 = .ok (.iconst (-1), 1) := by decide +kernel
theorem d_OG_person_12 : decode og_c_OG_person 12 = .ok (.ireturn, 1) := by decide +kernel
theorem d_OG_person_13 : decode og_c_OG_person 13 = .ok (.iload_n 2, 1) := by decide +kernel
theorem d_OG_person_14 : decode og_c_OG_person 14 = .ok (.tableswitch 70 0 3 #[30, 40, 50, 60], 30) := by decide +kernel
theorem d_OG_person_44 : decode og_c_OG_person 44 = .ok (.aload_n 0, 1) := by decide +kernel
theorem d_OG_person_45 : decode og_c_OG_person 45 = .ok (.getfield 90, 3) := by decide +kernel
theorem d_OG_person_48 : decode og_c_OG_person 48 = .ok (.getfield 193, 3) := by decide +kernel
theorem d_OG_person_51 : decode og_c_OG_person 51 = .ok (.iload_n 1, 1) := by decide +kernel
theorem d_OG_person_52 : decode og_c_OG_person 52 = .ok (.iaload, 1) := by decide +kernel
theorem d_OG_person_53 : decode og_c_OG_person 53 = .ok (.ireturn, 1) := by decide +kernel
theorem d_OG_person_54 : decode og_c_OG_person 54 = .ok (.aload_n 0, 1) := by decide +kernel
theorem d_OG_person_55 : decode og_c_OG_person 55 = .ok (.getfield 90, 3) := by decide +kernel
theorem d_OG_person_58 : decode og_c_OG_person 58 = .ok (.getfield 196, 3) := by decide +kernel
theorem d_OG_person_61 : decode og_c_OG_person 61 = .ok (.iload_n 1, 1) := by decide +kernel
theorem d_OG_person_62 : decode og_c_OG_person 62 = .ok (.iaload, 1) := by decide +kernel
theorem d_OG_person_63 : decode og_c_OG_person 63 = .ok (.ireturn, 1) := by decide +kernel
theorem d_OG_person_64 : decode og_c_OG_person 64 = .ok (.aload_n 0, 1) := by decide +kernel
theorem d_OG_person_65 : decode og_c_OG_person 65 = .ok (.getfield 90, 3) := by decide +kernel
theorem d_OG_person_68 : decode og_c_OG_person 68 = .ok (.getfield 199, 3) := by decide +kernel
theorem d_OG_person_71 : decode og_c_OG_person 71 = .ok (.iload_n 1, 1) := by decide +kernel
theorem d_OG_person_72 : decode og_c_OG_person 72 = .ok (.iaload, 1) := by decide +kernel
theorem d_OG_person_73 : decode og_c_OG_person 73 = .ok (.ireturn, 1) := by decide +kernel
theorem d_OG_person_74 : decode og_c_OG_person 74 = .ok (.aload_n 0, 1) := by decide +kernel
theorem d_OG_person_75 : decode og_c_OG_person 75 = .ok (.getfield 90, 3) := by decide +kernel
theorem d_OG_person_78 : decode og_c_OG_person 78 = .ok (.getfield 202, 3) := by decide +kernel
theorem d_OG_person_81 : decode og_c_OG_person 81 = .ok (.iload_n 1, 1) := by decide +kernel
theorem d_OG_person_82 : decode og_c_OG_person 82 = .ok (.iaload, 1) := by decide +kernel
theorem d_OG_person_83 : decode og_c_OG_person 83 = .ok (.ireturn, 1) := by decide +kernel
theorem d_OG_person_84 : decode og_c_OG_person 84 = .ok (.iconst (-1), 1) := by decide +kernel
theorem d_OG_person_85 : decode og_c_OG_person 85 = .ok (.ireturn, 1) := by decide +kernel
def m_OG_person : og_Dn := og_den [5, 0, 0] 3 0 (og_seq (og_if (og_not (og_cb (og_call m_Yard_isPerson [og_fix (fun _ => 100) (og_loc 0), og_loc 1]))) (og_ret (og_k (-1))) (og_skip)) (og_sw (og_loc 2) (fun x => og_cs x [0] (og_ret (og_ald 8 (og_fix (fun i => i + 5) (og_fix (fun _ => 100) (og_loc 0))) (og_loc 1))) (og_cs x [1] (og_ret (og_ald 8 (og_fix (fun i => i + 6) (og_fix (fun _ => 100) (og_loc 0))) (og_loc 1))) (og_cs x [2] (og_ret (og_ald 8 (og_fix (fun i => i + 7) (og_fix (fun _ => 100) (og_loc 0))) (og_loc 1))) (og_cs x [3] (og_ret (og_ald 8 (og_fix (fun i => i + 8) (og_fix (fun _ => 100) (og_loc 0))) (og_loc 1))) (og_ret (og_k (-1)))))))))
set_option maxRecDepth 20000 in
theorem ok_OG_person : og_MOK og_y_OG_person og_c_OG_person 3 0 2 [5, 0, 0] m_OG_person := og_method (b := 0) (lt' := []) (by decide +kernel) (by decide) (by decide) (og_sseq (og_sif (T := 11) (F := 13) (og_cnot (og_cbne (tgt := 13) (og_callVz (og_acons (og_f_OG_now (og_aload_n (i := 0) (t := 3) (j := 0) (by rfl) (by rfl) d_OG_person_0) og_w397 d_OG_person_1) (og_acons (og_iload_n (i := 1) (j := 1) (by rfl) (by rfl) d_OG_person_4) (og_anil))) (by decide) ok_Yard_isPerson (v_Yard_isPerson (by decide)) og_w720 d_OG_person_5) d_OG_person_8 (by decide))) (og_sreti (og_iconst (by decide) d_OG_person_11) d_OG_person_12) (og_sskip)) (og_stab (b1 := 0) (d := 84) (cs := [(0, 44), (1, 54), (2, 64), (3, 74)]) (og_iload_n (i := 2) (j := 2) (by rfl) (by rfl) d_OG_person_13) d_OG_person_14 (by decide) (by decide) (fun x => og_scs (fun hx => og_sat (by simp at hx; subst hx; rfl) (og_sreti (og_iald (N := 8) (og_f_Yard_tall_N (og_f_OG_now (og_aload_n (i := 0) (t := 3) (j := 0) (by rfl) (by rfl) d_OG_person_44) og_w397 d_OG_person_45) og_w80 d_OG_person_48) (by rfl) (og_iload_n (i := 1) (j := 1) (by rfl) (by rfl) d_OG_person_51) d_OG_person_52) d_OG_person_53)) (fun hx => og_scs (fun hx => og_sat (by simp at hx; subst hx; rfl) (og_sreti (og_iald (N := 8) (og_f_Yard_age_N (og_f_OG_now (og_aload_n (i := 0) (t := 3) (j := 0) (by rfl) (by rfl) d_OG_person_54) og_w397 d_OG_person_55) og_w85 d_OG_person_58) (by rfl) (og_iload_n (i := 1) (j := 1) (by rfl) (by rfl) d_OG_person_61) d_OG_person_62) d_OG_person_63)) (fun hx => og_scs (fun hx => og_sat (by simp at hx; subst hx; rfl) (og_sreti (og_iald (N := 8) (og_f_Yard_will_N (og_f_OG_now (og_aload_n (i := 0) (t := 3) (j := 0) (by rfl) (by rfl) d_OG_person_64) og_w397 d_OG_person_65) og_w91 d_OG_person_68) (by rfl) (og_iload_n (i := 1) (j := 1) (by rfl) (by rfl) d_OG_person_71) d_OG_person_72) d_OG_person_73)) (fun hx => og_scs (fun hx => og_sat (by simp at hx; subst hx; rfl) (og_sreti (og_iald (N := 8) (og_f_Yard_alive_N (og_f_OG_now (og_aload_n (i := 0) (t := 3) (j := 0) (by rfl) (by rfl) d_OG_person_74) og_w397 d_OG_person_75) og_w95 d_OG_person_78) (by rfl) (og_iload_n (i := 1) (j := 1) (by rfl) (by rfl) d_OG_person_81) d_OG_person_82) d_OG_person_83)) (fun hx => og_sat (og_lkn (by simp_all)) (og_sreti (og_iconst (by decide) d_OG_person_84) d_OG_person_85)))))))) (fun h => by cases h)
abbrev og_c_Reckoner_isPlain : ByteArray := prog_7_method_3_code
abbrev og_y_Reckoner_isPlain : MethodName := ⟨"OpenGraves$Reckoner", "isPlain", "(I)Z"⟩
theorem v_Reckoner_isPlain {dep : Nat} (h : 1 + 1 ≤ dep) : og_sS og_y_Reckoner_isPlain og_c_Reckoner_isPlain 1 3 1 dep 1 := ⟨og_w750, og_w12, og_w751, ⟨by decide +kernel, by decide +kernel, by decide +kernel⟩, h, by decide⟩
theorem d_Reckoner_isPlain_0 : decode og_c_Reckoner_isPlain 0 = .ok (.iload_n 0, 1) := by decide +kernel
theorem d_Reckoner_isPlain_1 : decode og_c_Reckoner_isPlain 1 = .ok (.iconst 5, 1) := by decide +kernel
theorem d_Reckoner_isPlain_2 : decode og_c_Reckoner_isPlain 2 = .ok (.if_icmp .lt 9, 3) := by decide +kernel
theorem d_Reckoner_isPlain_5 : decode og_c_Reckoner_isPlain 5 = .ok (.iload_n 0, 1) := by decide +kernel
theorem d_Reckoner_isPlain_6 : decode og_c_Reckoner_isPlain 6 = .ok (.bipush 7, 2) := by decide +kernel
theorem d_Reckoner_isPlain_8 : decode og_c_Reckoner_isPlain 8 = .ok (.if_icmp .le 15, 3) := by decide +kernel
theorem d_Reckoner_isPlain_11 : decode og_c_Reckoner_isPlain 11 = .ok (.iload_n 0, 1) := by decide +kernel
theorem d_Reckoner_isPlain_12 : decode og_c_Reckoner_isPlain 12 = .ok (.bipush 13, 2) := by decide +kernel
theorem d_Reckoner_isPlain_14 : decode og_c_Reckoner_isPlain 14 = .ok (.if_icmp .lt 13, 3) := by decide +kernel
theorem d_Reckoner_isPlain_17 : decode og_c_Reckoner_isPlain 17 = .ok (.iload_n 0, 1) := by decide +kernel
theorem d_Reckoner_isPlain_18 : decode og_c_Reckoner_isPlain 18 = .ok (.bipush 17, 2) := by decide +kernel
theorem d_Reckoner_isPlain_20 : decode og_c_Reckoner_isPlain 20 = .ok (.if_icmp .gt 7, 3) := by decide +kernel
theorem d_Reckoner_isPlain_23 : decode og_c_Reckoner_isPlain 23 = .ok (.iconst 1, 1) := by decide +kernel
theorem d_Reckoner_isPlain_24 : decode og_c_Reckoner_isPlain 24 = .ok (.goto 4, 3) := by decide +kernel
theorem d_Reckoner_isPlain_27 : decode og_c_Reckoner_isPlain 27 = .ok (.iconst 0, 1) := by decide +kernel
theorem d_Reckoner_isPlain_28 : decode og_c_Reckoner_isPlain 28 = .ok (.ireturn, 1) := by decide +kernel
def m_Reckoner_isPlain : og_Dn := og_den [0] 1 3 (og_retz (og_ec (og_or (og_and (og_cc og_rge (og_loc 0) (og_k 5)) (og_cc og_rle (og_loc 0) (og_k 7))) (og_and (og_cc og_rge (og_loc 0) (og_k 13)) (og_cc og_rle (og_loc 0) (og_k 17))))))
set_option maxRecDepth 20000 in
theorem ok_Reckoner_isPlain : og_MOK og_y_Reckoner_isPlain og_c_Reckoner_isPlain 1 3 1 [0] m_Reckoner_isPlain := og_method (b := 0) (lt' := []) (by decide +kernel) (by decide) (by decide) (og_sretz (og_econd (b := 0) (og_cor (og_cand (og_ccn og_n_ge (og_ilt (tgt := 11) (og_iload_n (i := 0) (j := 0) (by rfl) (by rfl) d_Reckoner_isPlain_0) (og_iconst (by decide) d_Reckoner_isPlain_1) d_Reckoner_isPlain_2 (by decide))) (og_ile (tgt := 23) (og_iload_n (i := 0) (j := 0) (by rfl) (by rfl) d_Reckoner_isPlain_5) (og_bipush (by decide) d_Reckoner_isPlain_6) d_Reckoner_isPlain_8 (by decide))) (og_cand (og_ccn og_n_ge (og_ilt (tgt := 27) (og_iload_n (i := 0) (j := 0) (by rfl) (by rfl) d_Reckoner_isPlain_11) (og_bipush (by decide) d_Reckoner_isPlain_12) d_Reckoner_isPlain_14 (by decide))) (og_ccn og_n_le (og_igt (tgt := 27) (og_iload_n (i := 0) (j := 0) (by rfl) (by rfl) d_Reckoner_isPlain_17) (og_bipush (by decide) d_Reckoner_isPlain_18) d_Reckoner_isPlain_20 (by decide))))) d_Reckoner_isPlain_23 d_Reckoner_isPlain_24 (by decide) d_Reckoner_isPlain_27 (by rfl)) d_Reckoner_isPlain_28) (fun h => by cases h)
abbrev og_c_Reckoner_plain : ByteArray := prog_7_method_4_code
abbrev og_y_Reckoner_plain : MethodName := ⟨"OpenGraves$Reckoner", "plain", "(ILOpenGraves$Yard;II)I"⟩
theorem v_Reckoner_plain {dep : Nat} (h : 1 + 1 ≤ dep) : og_sS og_y_Reckoner_plain og_c_Reckoner_plain 4 0 1 dep 4 := ⟨og_w753, og_w12, og_w754, ⟨by decide +kernel, by decide +kernel, by decide +kernel⟩, h, by decide⟩
theorem d_Reckoner_plain_0 : decode og_c_Reckoner_plain 0 = .ok (.iload_n 0, 1) := by decide +kernel
theorem d_Reckoner_plain_1 : decode og_c_Reckoner_plain 1 = .ok (.tableswitch 102 5 17 #[74, 67, 81, 102, 102, 102, 102, 102, 88, 102, 102, 93, 95], 67) := by decide +kernel
theorem d_Reckoner_plain_68 : decode og_c_Reckoner_plain 68 = .ok (.aload_n 1, 1) := by decide +kernel
theorem d_Reckoner_plain_69 : decode og_c_Reckoner_plain 69 = .ok (.getfield 58, 3) := by decide +kernel
theorem d_Reckoner_plain_72 : decode og_c_Reckoner_plain 72 = .ok (.iload_n 2, 1) := by decide +kernel
theorem d_Reckoner_plain_73 : decode og_c_Reckoner_plain 73 = .ok (.iaload, 1) := by decide +kernel
theorem d_Reckoner_plain_74 : decode og_c_Reckoner_plain 74 = .ok (.ireturn, 1) := by decide +kernel
theorem d_Reckoner_plain_75 : decode og_c_Reckoner_plain 75 = .ok (.aload_n 1, 1) := by decide +kernel
theorem d_Reckoner_plain_76 : decode og_c_Reckoner_plain 76 = .ok (.getfield 63, 3) := by decide +kernel
theorem d_Reckoner_plain_79 : decode og_c_Reckoner_plain 79 = .ok (.iload_n 2, 1) := by decide +kernel
theorem d_Reckoner_plain_80 : decode og_c_Reckoner_plain 80 = .ok (.iaload, 1) := by decide +kernel
theorem d_Reckoner_plain_81 : decode og_c_Reckoner_plain 81 = .ok (.ireturn, 1) := by decide +kernel
theorem d_Reckoner_plain_82 : decode og_c_Reckoner_plain 82 = .ok (.aload_n 1, 1) := by decide +kernel
theorem d_Reckoner_plain_83 : decode og_c_Reckoner_plain 83 = .ok (.getfield 66, 3) := by decide +kernel
theorem d_Reckoner_plain_86 : decode og_c_Reckoner_plain 86 = .ok (.iload_n 2, 1) := by decide +kernel
theorem d_Reckoner_plain_87 : decode og_c_Reckoner_plain 87 = .ok (.iaload, 1) := by decide +kernel
theorem d_Reckoner_plain_88 : decode og_c_Reckoner_plain 88 = .ok (.ireturn, 1) := by decide +kernel
theorem d_Reckoner_plain_89 : decode og_c_Reckoner_plain 89 = .ok (.aload_n 1, 1) := by decide +kernel
theorem d_Reckoner_plain_90 : decode og_c_Reckoner_plain 90 = .ok (.getfield 69, 3) := by decide +kernel
theorem d_Reckoner_plain_93 : decode og_c_Reckoner_plain 93 = .ok (.ireturn, 1) := by decide +kernel
theorem d_Reckoner_plain_94 : decode og_c_Reckoner_plain 94 = .ok (.iload_n 2, 1) := by decide +kernel
theorem d_Reckoner_plain_95 : decode og_c_Reckoner_plain 95 = .ok (.ireturn, 1) := by decide +kernel
theorem d_Reckoner_plain_96 : decode og_c_Reckoner_plain 96 = .ok (.aload_n 1, 1) := by decide +kernel
theorem d_Reckoner_plain_97 : decode og_c_Reckoner_plain 97 = .ok (.getfield 73, 3) := by decide +kernel
theorem d_Reckoner_plain_100 : decode og_c_Reckoner_plain 100 = .ok (.iload_n 2, 1) := by decide +kernel
theorem d_Reckoner_plain_101 : decode og_c_Reckoner_plain 101 = .ok (.iaload, 1) := by decide +kernel
theorem d_Reckoner_plain_102 : decode og_c_Reckoner_plain 102 = .ok (.ireturn, 1) := by decide +kernel
theorem d_Reckoner_plain_103 : decode og_c_Reckoner_plain 103 = .ok (.iload_n 3, 1) := by decide +kernel
theorem d_Reckoner_plain_104 : decode og_c_Reckoner_plain 104 = .ok (.ireturn, 1) := by decide +kernel
def m_Reckoner_plain : og_Dn := og_den [0, 16, 0, 0] 4 0 (og_sw (og_loc 0) (fun x => og_cs x [6] (og_ret (og_ald 8 (og_fix (fun i => i + 6) (og_loc 1)) (og_loc 2))) (og_cs x [5] (og_ret (og_ald 8 (og_fix (fun i => i + 5) (og_loc 1)) (og_loc 2))) (og_cs x [7] (og_ret (og_ald 8 (og_fix (fun i => i + 7) (og_loc 1)) (og_loc 2))) (og_cs x [13] (og_ret (og_get 2 (og_loc 1))) (og_cs x [16] (og_ret (og_loc 2)) (og_cs x [17] (og_ret (og_ald 8 (og_fix (fun i => i + 8) (og_loc 1)) (og_loc 2))) (og_ret (og_loc 3)))))))))
set_option maxRecDepth 20000 in
theorem ok_Reckoner_plain : og_MOK og_y_Reckoner_plain og_c_Reckoner_plain 4 0 1 [0, 16, 0, 0] m_Reckoner_plain := og_method (b := 0) (lt' := []) (by decide +kernel) (by decide) (by decide) (og_stab (b1 := 0) (d := 103) (cs := [(6, 68), (5, 75), (7, 82), (13, 89), (16, 94), (17, 96)]) (og_iload_n (i := 0) (j := 0) (by rfl) (by rfl) d_Reckoner_plain_0) d_Reckoner_plain_1 (by decide) (by decide) (fun x => og_scs (fun hx => og_sat (by simp at hx; subst hx; rfl) (og_sreti (og_iald (N := 8) (og_f_Yard_age_N (og_aload_n (i := 1) (t := 14) (j := 1) (by rfl) (by rfl) d_Reckoner_plain_68) og_w82 d_Reckoner_plain_69) (by rfl) (og_iload_n (i := 2) (j := 2) (by rfl) (by rfl) d_Reckoner_plain_72) d_Reckoner_plain_73) d_Reckoner_plain_74)) (fun hx => og_scs (fun hx => og_sat (by simp at hx; subst hx; rfl) (og_sreti (og_iald (N := 8) (og_f_Yard_tall_N (og_aload_n (i := 1) (t := 14) (j := 1) (by rfl) (by rfl) d_Reckoner_plain_75) og_w78 d_Reckoner_plain_76) (by rfl) (og_iload_n (i := 2) (j := 2) (by rfl) (by rfl) d_Reckoner_plain_79) d_Reckoner_plain_80) d_Reckoner_plain_81)) (fun hx => og_scs (fun hx => og_sat (by simp at hx; subst hx; rfl) (og_sreti (og_iald (N := 8) (og_f_Yard_will_N (og_aload_n (i := 1) (t := 14) (j := 1) (by rfl) (by rfl) d_Reckoner_plain_82) og_w87 d_Reckoner_plain_83) (by rfl) (og_iload_n (i := 2) (j := 2) (by rfl) (by rfl) d_Reckoner_plain_86) d_Reckoner_plain_87) d_Reckoner_plain_88)) (fun hx => og_scs (fun hx => og_sat (by simp at hx; subst hx; rfl) (og_sreti (og_f_Yard_month_N (og_aload_n (i := 1) (t := 14) (j := 1) (by rfl) (by rfl) d_Reckoner_plain_89) og_w57 d_Reckoner_plain_90) d_Reckoner_plain_93)) (fun hx => og_scs (fun hx => og_sat (by simp at hx; subst hx; rfl) (og_sreti (og_iload_n (i := 2) (j := 2) (by rfl) (by rfl) d_Reckoner_plain_94) d_Reckoner_plain_95)) (fun hx => og_scs (fun hx => og_sat (by simp at hx; subst hx; rfl) (og_sreti (og_iald (N := 8) (og_f_Yard_alive_N (og_aload_n (i := 1) (t := 14) (j := 1) (by rfl) (by rfl) d_Reckoner_plain_96) og_w93 d_Reckoner_plain_97) (by rfl) (og_iload_n (i := 2) (j := 2) (by rfl) (by rfl) d_Reckoner_plain_100) d_Reckoner_plain_101) d_Reckoner_plain_102)) (fun hx => og_sat (og_lkn (by simp_all)) (og_sreti (og_iload_n (i := 3) (j := 3) (by rfl) (by rfl) d_Reckoner_plain_103) d_Reckoner_plain_104))))))))) (fun h => by cases h)
abbrev og_c_Reckoner_single : ByteArray := prog_7_method_5_code
abbrev og_y_Reckoner_single : MethodName := ⟨"OpenGraves$Reckoner", "single", "(IILOpenGraves$Yard;I)I"⟩
theorem v_Reckoner_single {dep : Nat} (h : 1 + 1 ≤ dep) : og_sS og_y_Reckoner_single og_c_Reckoner_single 4 0 1 dep 4 := ⟨og_w756, og_w12, og_w757, ⟨by decide +kernel, by decide +kernel, by decide +kernel⟩, h, by decide⟩
theorem d_Reckoner_single_0 : decode og_c_Reckoner_single 0 = .ok (.iload_n 0, 1) := by decide +kernel
theorem d_Reckoner_single_1 : decode og_c_Reckoner_single 1 = .ok (.bipush 21, 2) := by decide +kernel
theorem d_Reckoner_single_3 : decode og_c_Reckoner_single 3 = .ok (.if_icmp .ne 7, 3) := by decide +kernel
theorem d_Reckoner_single_6 : decode og_c_Reckoner_single 6 = .ok (.iconst 1, 1) := by decide +kernel
theorem d_Reckoner_single_7 : decode og_c_Reckoner_single 7 = .ok (.iload_n 1, 1) := by decide +kernel
theorem d_Reckoner_single_8 : decode og_c_Reckoner_single 8 = .ok (.isub, 1) := by decide +kernel
theorem d_Reckoner_single_9 : decode og_c_Reckoner_single 9 = .ok (.ireturn, 1) := by decide +kernel
theorem d_Reckoner_single_10 : decode og_c_Reckoner_single 10 = .ok (.iload_n 1, 1) := by decide +kernel
theorem d_Reckoner_single_11 : decode og_c_Reckoner_single 11 = .ok (.ifCond .lt 11, 3) := by decide +kernel
theorem d_Reckoner_single_14 : decode og_c_Reckoner_single 14 = .ok (.iload_n 1, 1) := by decide +kernel
theorem d_Reckoner_single_15 : decode og_c_Reckoner_single 15 = .ok (.aload_n 2, 1) := by decide +kernel
theorem d_Reckoner_single_16 : decode og_c_Reckoner_single 16 = .ok (.getfield 76, 3) := by decide +kernel
theorem d_Reckoner_single_19 : decode og_c_Reckoner_single 19 = .ok (.if_icmp .lt 5, 3) := by decide +kernel
theorem d_Reckoner_single_22 : decode og_c_Reckoner_single 22 = .ok (.iconst 0, 1) := by decide +kernel
theorem d_Reckoner_single_23 : decode og_c_Reckoner_single 23 = .ok (.ireturn, 1) := by decide +kernel
theorem d_Reckoner_single_24 : decode og_c_Reckoner_single 24 = .ok (.iload_n 0, 1) := by decide +kernel
theorem d_Reckoner_single_25 : decode og_c_Reckoner_single 25 = .ok (.iconst 3, 1) := by decide +kernel
theorem d_Reckoner_single_26 : decode og_c_Reckoner_single 26 = .ok (.if_icmp .ne 10, 3) := by decide +kernel
theorem d_Reckoner_single_29 : decode og_c_Reckoner_single 29 = .ok (.aload_n 2, 1) := by decide +kernel
theorem d_Reckoner_single_30 : decode og_c_Reckoner_single 30 = .ok (.getfield 79, 3) := by decide +kernel
theorem d_Reckoner_single_33 : decode og_c_Reckoner_single 33 = .ok (.iload_n 1, 1) := by decide +kernel
theorem d_Reckoner_single_34 : decode og_c_Reckoner_single 34 = .ok (.iaload, 1) := by decide +kernel
theorem d_Reckoner_single_35 : decode og_c_Reckoner_single 35 = .ok (.ireturn, 1) := by decide +kernel
theorem d_Reckoner_single_36 : decode og_c_Reckoner_single 36 = .ok (.aload_n 2, 1) := by decide +kernel
theorem d_Reckoner_single_37 : decode og_c_Reckoner_single 37 = .ok (.getfield 63, 3) := by decide +kernel
theorem d_Reckoner_single_40 : decode og_c_Reckoner_single 40 = .ok (.iload_n 3, 1) := by decide +kernel
theorem d_Reckoner_single_41 : decode og_c_Reckoner_single 41 = .ok (.iaload, 1) := by decide +kernel
theorem d_Reckoner_single_42 : decode og_c_Reckoner_single 42 = .ok (.aload_n 2, 1) := by decide +kernel
theorem d_Reckoner_single_43 : decode og_c_Reckoner_single 43 = .ok (.getfield 82, 3) := by decide +kernel
theorem d_Reckoner_single_46 : decode og_c_Reckoner_single 46 = .ok (.iload_n 1, 1) := by decide +kernel
theorem d_Reckoner_single_47 : decode og_c_Reckoner_single 47 = .ok (.iaload, 1) := by decide +kernel
theorem d_Reckoner_single_48 : decode og_c_Reckoner_single 48 = .ok (.if_icmp .gt 7, 3) := by decide +kernel
theorem d_Reckoner_single_51 : decode og_c_Reckoner_single 51 = .ok (.iconst 1, 1) := by decide +kernel
theorem d_Reckoner_single_52 : decode og_c_Reckoner_single 52 = .ok (.goto 4, 3) := by decide +kernel
theorem d_Reckoner_single_55 : decode og_c_Reckoner_single 55 = .ok (.iconst 0, 1) := by decide +kernel
theorem d_Reckoner_single_56 : decode og_c_Reckoner_single 56 = .ok (.ireturn, 1) := by decide +kernel
def m_Reckoner_single : og_Dn := og_den [0, 0, 16, 0] 4 0 (og_seq (og_if (og_cc og_req (og_loc 0) (og_k 21)) (og_ret (og_sub (og_k 1) (og_loc 1))) (og_skip)) (og_seq (og_if (og_or (og_cc og_rlt (og_loc 1) (og_k 0)) (og_cc og_rge (og_loc 1) (og_get 0 (og_loc 2)))) (og_ret (og_k 0)) (og_skip)) (og_seq (og_if (og_cc og_req (og_loc 0) (og_k 3)) (og_ret (og_ald 6 (og_fix (fun i => i + 3) (og_loc 2)) (og_loc 1))) (og_skip)) (og_ret (og_ei (og_cc og_rle (og_ald 8 (og_fix (fun i => i + 5) (og_loc 2)) (og_loc 3)) (og_ald 6 (og_fix (fun i => i + 1) (og_loc 2)) (og_loc 1))) (og_k 1) (og_k 0))))))
set_option maxRecDepth 20000 in
theorem ok_Reckoner_single : og_MOK og_y_Reckoner_single og_c_Reckoner_single 4 0 1 [0, 0, 16, 0] m_Reckoner_single := og_method (b := 0) (lt' := []) (by decide +kernel) (by decide) (by decide) (og_sseq (og_sif (T := 6) (F := 10) (og_ccn og_n_eq (og_ine (tgt := 10) (og_iload_n (i := 0) (j := 0) (by rfl) (by rfl) d_Reckoner_single_0) (og_bipush (by decide) d_Reckoner_single_1) d_Reckoner_single_3 (by decide))) (og_sreti (og_isub (og_iconst (by decide) d_Reckoner_single_6) (og_iload_n (i := 1) (j := 1) (by rfl) (by rfl) d_Reckoner_single_7) d_Reckoner_single_8) d_Reckoner_single_9) (og_sskip)) (og_sseq (og_sif (T := 22) (F := 24) (og_cor (og_zlt (tgt := 22) (og_iload_n (i := 1) (j := 1) (by rfl) (by rfl) d_Reckoner_single_10) d_Reckoner_single_11 (by decide)) (og_ccn og_n_ge (og_ilt (tgt := 24) (og_iload_n (i := 1) (j := 1) (by rfl) (by rfl) d_Reckoner_single_14) (og_f_Yard_graves_N (og_aload_n (i := 2) (t := 14) (j := 2) (by rfl) (by rfl) d_Reckoner_single_15) og_w45 d_Reckoner_single_16) d_Reckoner_single_19 (by decide)))) (og_sreti (og_iconst (by decide) d_Reckoner_single_22) d_Reckoner_single_23) (og_sskip)) (og_sseq (og_sif (T := 29) (F := 36) (og_ccn og_n_eq (og_ine (tgt := 36) (og_iload_n (i := 0) (j := 0) (by rfl) (by rfl) d_Reckoner_single_24) (og_iconst (by decide) d_Reckoner_single_25) d_Reckoner_single_26 (by decide))) (og_sreti (og_iald (N := 6) (og_f_Yard_due_N (og_aload_n (i := 2) (t := 14) (j := 2) (by rfl) (by rfl) d_Reckoner_single_29) og_w71 d_Reckoner_single_30) (by rfl) (og_iload_n (i := 1) (j := 1) (by rfl) (by rfl) d_Reckoner_single_33) d_Reckoner_single_34) d_Reckoner_single_35) (og_sskip)) (og_sreti (og_eite (og_ccn og_n_le (og_igt (tgt := 55) (og_iald (N := 8) (og_f_Yard_tall_N (og_aload_n (i := 2) (t := 14) (j := 2) (by rfl) (by rfl) d_Reckoner_single_36) og_w78 d_Reckoner_single_37) (by rfl) (og_iload_n (i := 3) (j := 3) (by rfl) (by rfl) d_Reckoner_single_40) d_Reckoner_single_41) (og_iald (N := 6) (og_f_Yard_length_N (og_aload_n (i := 2) (t := 14) (j := 2) (by rfl) (by rfl) d_Reckoner_single_42) og_w62 d_Reckoner_single_43) (by rfl) (og_iload_n (i := 1) (j := 1) (by rfl) (by rfl) d_Reckoner_single_46) d_Reckoner_single_47) d_Reckoner_single_48 (by decide))) (og_iconst (by decide) d_Reckoner_single_51) d_Reckoner_single_52 (by decide) (og_iconst (by decide) d_Reckoner_single_55)) d_Reckoner_single_56)))) (fun h => by cases h)
abbrev og_c_J_floorDiv : ByteArray := prog_16_method_47_code
abbrev og_y_J_floorDiv : MethodName := ⟨"java/lang/Math", "floorDiv", "(II)I"⟩
theorem v_J_floorDiv {dep : Nat} (h : 1 + 1 ≤ dep) : og_sS og_y_J_floorDiv og_c_J_floorDiv 3 0 1 dep 2 := ⟨og_w764, og_w19, og_w765, ⟨by decide +kernel, by decide +kernel, by decide +kernel⟩, h, by decide⟩
theorem d_J_floorDiv_0 : decode og_c_J_floorDiv 0 = .ok (.iload_n 0, 1) := by decide +kernel
theorem d_J_floorDiv_1 : decode og_c_J_floorDiv 1 = .ok (.iload_n 1, 1) := by decide +kernel
theorem d_J_floorDiv_2 : decode og_c_J_floorDiv 2 = .ok (.idiv, 1) := by decide +kernel
theorem d_J_floorDiv_3 : decode og_c_J_floorDiv 3 = .ok (.istore_n 2, 1) := by decide +kernel
theorem d_J_floorDiv_4 : decode og_c_J_floorDiv 4 = .ok (.iload_n 0, 1) := by decide +kernel
theorem d_J_floorDiv_5 : decode og_c_J_floorDiv 5 = .ok (.iload_n 1, 1) := by decide +kernel
theorem d_J_floorDiv_6 : decode og_c_J_floorDiv 6 = .ok (.ixor, 1) := by decide +kernel
theorem d_J_floorDiv_7 : decode og_c_J_floorDiv 7 = .ok (.ifCond .ge 14, 3) := by decide +kernel
theorem d_J_floorDiv_10 : decode og_c_J_floorDiv 10 = .ok (.iload_n 2, 1) := by decide +kernel
theorem d_J_floorDiv_11 : decode og_c_J_floorDiv 11 = .ok (.iload_n 1, 1) := by decide +kernel
theorem d_J_floorDiv_12 : decode og_c_J_floorDiv 12 = .ok (.imul, 1) := by decide +kernel
theorem d_J_floorDiv_13 : decode og_c_J_floorDiv 13 = .ok (.iload_n 0, 1) := by decide +kernel
theorem d_J_floorDiv_14 : decode og_c_J_floorDiv 14 = .ok (.if_icmp .eq 7, 3) := by decide +kernel
theorem d_J_floorDiv_17 : decode og_c_J_floorDiv 17 = .ok (.iload_n 2, 1) := by decide +kernel
theorem d_J_floorDiv_18 : decode og_c_J_floorDiv 18 = .ok (.iconst 1, 1) := by decide +kernel
theorem d_J_floorDiv_19 : decode og_c_J_floorDiv 19 = .ok (.isub, 1) := by decide +kernel
theorem d_J_floorDiv_20 : decode og_c_J_floorDiv 20 = .ok (.ireturn, 1) := by decide +kernel
theorem d_J_floorDiv_21 : decode og_c_J_floorDiv 21 = .ok (.iload_n 2, 1) := by decide +kernel
theorem d_J_floorDiv_22 : decode og_c_J_floorDiv 22 = .ok (.ireturn, 1) := by decide +kernel
def m_J_floorDiv : og_Dn := og_den [0, 0] 3 0 (og_seq (og_set 2 (og_div (og_loc 0) (og_loc 1))) (og_seq (og_if (og_and (og_cc og_rlt (og_bop og_oxor (og_loc 0) (og_loc 1)) (og_k 0)) (og_cc og_rne (og_mul (og_loc 2) (og_loc 1)) (og_loc 0))) (og_ret (og_sub (og_loc 2) (og_k 1))) (og_skip)) (og_ret (og_loc 2))))
set_option maxRecDepth 20000 in
theorem ok_J_floorDiv : og_MOK og_y_J_floorDiv og_c_J_floorDiv 3 0 1 [0, 0] m_J_floorDiv := og_method (b := 0) (lt' := []) (by decide +kernel) (by decide) (by decide) (og_sseq (og_istore_n (i := 2) (lt' := [(0, 0), (1, 0), (2, 0)]) (og_idiv (og_iload_n (i := 0) (j := 0) (by rfl) (by rfl) d_J_floorDiv_0) (og_iload_n (i := 1) (j := 1) (by rfl) (by rfl) d_J_floorDiv_1) d_J_floorDiv_2) (by rfl) (by decide) (by decide) d_J_floorDiv_3) (og_sseq (og_sif (T := 17) (F := 21) (og_cand (og_ccn og_n_lt (og_zge (tgt := 21) (og_ixor (og_iload_n (i := 0) (j := 0) (by rfl) (by rfl) d_J_floorDiv_4) (og_iload_n (i := 1) (j := 1) (by rfl) (by rfl) d_J_floorDiv_5) d_J_floorDiv_6) d_J_floorDiv_7 (by decide))) (og_ccn og_n_ne (og_ieq (tgt := 21) (og_imul (og_iload_n (i := 2) (j := 2) (by rfl) (by rfl) d_J_floorDiv_10) (og_iload_n (i := 1) (j := 1) (by rfl) (by rfl) d_J_floorDiv_11) d_J_floorDiv_12) (og_iload_n (i := 0) (j := 0) (by rfl) (by rfl) d_J_floorDiv_13) d_J_floorDiv_14 (by decide)))) (og_sreti (og_isub (og_iload_n (i := 2) (j := 2) (by rfl) (by rfl) d_J_floorDiv_17) (og_iconst (by decide) d_J_floorDiv_18) d_J_floorDiv_19) d_J_floorDiv_20) (og_sskip)) (og_sreti (og_iload_n (i := 2) (j := 2) (by rfl) (by rfl) d_J_floorDiv_21) d_J_floorDiv_22))) (fun h => by cases h)
abbrev og_c_Reckoner_joint : ByteArray := prog_7_method_6_code
abbrev og_y_Reckoner_joint : MethodName := ⟨"OpenGraves$Reckoner", "joint", "(III)J"⟩
theorem v_Reckoner_joint {dep : Nat} (h : 2 + 1 ≤ dep) : og_sS og_y_Reckoner_joint og_c_Reckoner_joint 3 1 2 dep 3 := ⟨og_w761, og_w12, og_w762, ⟨by decide +kernel, by decide +kernel, by decide +kernel⟩, h, by decide⟩
theorem d_Reckoner_joint_0 : decode og_c_Reckoner_joint 0 = .ok (.iload_n 0, 1) := by decide +kernel
theorem d_Reckoner_joint_1 : decode og_c_Reckoner_joint 1 = .ok (.lookupswitch 156 #[(20, 149), (23, 149), (42, 95), (43, 83), (45, 89), (47, 101), (60, 116), (61, 138), (62, 127)], 83) := by decide +kernel
theorem d_Reckoner_joint_84 : decode og_c_Reckoner_joint 84 = .ok (.iload_n 1, 1) := by decide +kernel
theorem d_Reckoner_joint_85 : decode og_c_Reckoner_joint 85 = .ok (.i2l, 1) := by decide +kernel
theorem d_Reckoner_joint_86 : decode og_c_Reckoner_joint 86 = .ok (.iload_n 2, 1) := by decide +kernel
theorem d_Reckoner_joint_87 : decode og_c_Reckoner_joint 87 = .ok (.i2l, 1) := by decide +kernel
theorem d_Reckoner_joint_88 : decode og_c_Reckoner_joint 88 = .ok (.ladd, 1) := by decide +kernel
theorem d_Reckoner_joint_89 : decode og_c_Reckoner_joint 89 = .ok (.lreturn, 1) := by decide +kernel
theorem d_Reckoner_joint_90 : decode og_c_Reckoner_joint 90 = .ok (.iload_n 1, 1) := by decide +kernel
theorem d_Reckoner_joint_91 : decode og_c_Reckoner_joint 91 = .ok (.i2l, 1) := by decide +kernel
theorem d_Reckoner_joint_92 : decode og_c_Reckoner_joint 92 = .ok (.iload_n 2, 1) := by decide +kernel
theorem d_Reckoner_joint_93 : decode og_c_Reckoner_joint 93 = .ok (.i2l, 1) := by decide +kernel
theorem d_Reckoner_joint_94 : decode og_c_Reckoner_joint 94 = .ok (.lsub, 1) := by decide +kernel
theorem d_Reckoner_joint_95 : decode og_c_Reckoner_joint 95 = .ok (.lreturn, 1) := by decide +kernel
theorem d_Reckoner_joint_96 : decode og_c_Reckoner_joint 96 = .ok (.iload_n 1, 1) := by decide +kernel
theorem d_Reckoner_joint_97 : decode og_c_Reckoner_joint 97 = .ok (.i2l, 1) := by decide +kernel
theorem d_Reckoner_joint_98 : decode og_c_Reckoner_joint 98 = .ok (.iload_n 2, 1) := by decide +kernel
theorem d_Reckoner_joint_99 : decode og_c_Reckoner_joint 99 = .ok (.i2l, 1) := by decide +kernel
theorem d_Reckoner_joint_100 : decode og_c_Reckoner_joint 100 = .ok (.lmul, 1) := by decide +kernel
theorem d_Reckoner_joint_101 : decode og_c_Reckoner_joint 101 = .ok (.lreturn, 1) := by decide +kernel
theorem d_Reckoner_joint_102 : decode og_c_Reckoner_joint 102 = .ok (.iload_n 2, 1) := by decide +kernel
theorem d_Reckoner_joint_103 : decode og_c_Reckoner_joint 103 = .ok (.ifCond .ne 7, 3) := by decide +kernel
theorem d_Reckoner_joint_106 : decode og_c_Reckoner_joint 106 = .ok (.lconst 0, 1) := by decide +kernel
theorem d_Reckoner_joint_107 : decode og_c_Reckoner_joint 107 = .ok (.goto 9, 3) := by decide +kernel
theorem d_Reckoner_joint_110 : decode og_c_Reckoner_joint 110 = .ok (.iload_n 1, 1) := by decide +kernel
theorem d_Reckoner_joint_111 : decode og_c_Reckoner_joint 111 = .ok (.iload_n 2, 1) := by decide +kernel
theorem d_Reckoner_joint_112 : decode og_c_Reckoner_joint 112 = .ok (.invokestatic 85, 3) := by decide +kernel
theorem d_Reckoner_joint_115 : decode og_c_Reckoner_joint 115 = .ok (.i2l, 1) := by decide +kernel
theorem d_Reckoner_joint_116 : decode og_c_Reckoner_joint 116 = .ok (.lreturn, 1) := by decide +kernel
theorem d_Reckoner_joint_117 : decode og_c_Reckoner_joint 117 = .ok (.iload_n 1, 1) := by decide +kernel
theorem d_Reckoner_joint_118 : decode og_c_Reckoner_joint 118 = .ok (.iload_n 2, 1) := by decide +kernel
theorem d_Reckoner_joint_119 : decode og_c_Reckoner_joint 119 = .ok (.if_icmp .ge 7, 3) := by decide +kernel
theorem d_Reckoner_joint_122 : decode og_c_Reckoner_joint 122 = .ok (.lconst 1, 1) := by decide +kernel
theorem d_Reckoner_joint_123 : decode og_c_Reckoner_joint 123 = .ok (.goto 4, 3) := by decide +kernel
theorem d_Reckoner_joint_126 : decode og_c_Reckoner_joint 126 = .ok (.lconst 0, 1) := by decide +kernel
theorem d_Reckoner_joint_127 : decode og_c_Reckoner_joint 127 = .ok (.lreturn, 1) := by decide +kernel
theorem d_Reckoner_joint_128 : decode og_c_Reckoner_joint 128 = .ok (.iload_n 1, 1) := by decide +kernel
theorem d_Reckoner_joint_129 : decode og_c_Reckoner_joint 129 = .ok (.iload_n 2, 1) := by decide +kernel
theorem d_Reckoner_joint_130 : decode og_c_Reckoner_joint 130 = .ok (.if_icmp .le 7, 3) := by decide +kernel
theorem d_Reckoner_joint_133 : decode og_c_Reckoner_joint 133 = .ok (.lconst 1, 1) := by decide +kernel
theorem d_Reckoner_joint_134 : decode og_c_Reckoner_joint 134 = .ok (.goto 4, 3) := by decide +kernel
theorem d_Reckoner_joint_137 : decode og_c_Reckoner_joint 137 = .ok (.lconst 0, 1) := by decide +kernel
theorem d_Reckoner_joint_138 : decode og_c_Reckoner_joint 138 = .ok (.lreturn, 1) := by decide +kernel
theorem d_Reckoner_joint_139 : decode og_c_Reckoner_joint 139 = .ok (.iload_n 1, 1) := by decide +kernel
theorem d_Reckoner_joint_140 : decode og_c_Reckoner_joint 140 = .ok (.iload_n 2, 1) := by decide +kernel
theorem d_Reckoner_joint_141 : decode og_c_Reckoner_joint 141 = .ok (.if_icmp .ne 7, 3) := by decide +kernel
theorem d_Reckoner_joint_144 : decode og_c_Reckoner_joint 144 = .ok (.lconst 1, 1) := by decide +kernel
theorem d_Reckoner_joint_145 : decode og_c_Reckoner_joint 145 = .ok (.goto 4, 3) := by decide +kernel
theorem d_Reckoner_joint_148 : decode og_c_Reckoner_joint 148 = .ok (.lconst 0, 1) := by decide +kernel
theorem d_Reckoner_joint_149 : decode og_c_Reckoner_joint 149 = .ok (.lreturn, 1) := by decide +kernel
theorem d_Reckoner_joint_150 : decode og_c_Reckoner_joint 150 = .ok (.iload_n 1, 1) := by decide +kernel
theorem d_Reckoner_joint_151 : decode og_c_Reckoner_joint 151 = .ok (.iload_n 2, 1) := by decide +kernel
theorem d_Reckoner_joint_152 : decode og_c_Reckoner_joint 152 = .ok (.invokestatic 23, 3) := by decide +kernel
theorem d_Reckoner_joint_155 : decode og_c_Reckoner_joint 155 = .ok (.i2l, 1) := by decide +kernel
theorem d_Reckoner_joint_156 : decode og_c_Reckoner_joint 156 = .ok (.lreturn, 1) := by decide +kernel
theorem d_Reckoner_joint_157 : decode og_c_Reckoner_joint 157 = .ok (.iload_n 1, 1) := by decide +kernel
theorem d_Reckoner_joint_158 : decode og_c_Reckoner_joint 158 = .ok (.iload_n 2, 1) := by decide +kernel
theorem d_Reckoner_joint_159 : decode og_c_Reckoner_joint 159 = .ok (.invokestatic 88, 3) := by decide +kernel
theorem d_Reckoner_joint_162 : decode og_c_Reckoner_joint 162 = .ok (.i2l, 1) := by decide +kernel
theorem d_Reckoner_joint_163 : decode og_c_Reckoner_joint 163 = .ok (.lreturn, 1) := by decide +kernel
def m_Reckoner_joint : og_Dn := og_den [0, 0, 0] 3 1 (og_sw (og_loc 0) (fun x => og_cs x [43] (og_ret (og_ladd (og_i2l (og_loc 1)) (og_i2l (og_loc 2)))) (og_cs x [45] (og_ret (og_lsub (og_i2l (og_loc 1)) (og_i2l (og_loc 2)))) (og_cs x [42] (og_ret (og_lmul (og_i2l (og_loc 1)) (og_i2l (og_loc 2)))) (og_cs x [47] (og_ret (og_ei (og_cc og_req (og_loc 2) (og_k 0)) (og_k 0) (og_i2l (og_call m_J_floorDiv [og_loc 1, og_loc 2])))) (og_cs x [60] (og_ret (og_ei (og_cc og_rlt (og_loc 1) (og_loc 2)) (og_k 1) (og_k 0))) (og_cs x [62] (og_ret (og_ei (og_cc og_rgt (og_loc 1) (og_loc 2)) (og_k 1) (og_k 0))) (og_cs x [61] (og_ret (og_ei (og_cc og_req (og_loc 1) (og_loc 2)) (og_k 1) (og_k 0))) (og_cs x [23, 20] (og_ret (og_i2l (og_min (og_loc 1) (og_loc 2)))) (og_ret (og_i2l (og_max (og_loc 1) (og_loc 2)))))))))))))
set_option maxRecDepth 20000 in
theorem ok_Reckoner_joint : og_MOK og_y_Reckoner_joint og_c_Reckoner_joint 3 1 2 [0, 0, 0] m_Reckoner_joint := og_method (b := 0) (lt' := []) (by decide +kernel) (by decide) (by decide) (og_slook (b1 := 0) (d := 157) (cs := [(20, 150), (23, 150), (42, 96), (43, 84), (45, 90), (47, 102), (60, 117), (61, 139), (62, 128)]) (og_iload_n (i := 0) (j := 0) (by rfl) (by rfl) d_Reckoner_joint_0) d_Reckoner_joint_1 (by decide) (by decide) (og_lkeq (by decide)) (fun x => og_scs (fun hx => og_sat (by simp at hx; subst hx; rfl) (og_sretl (og_ladd_ (og_i2l_ (og_iload_n (i := 1) (j := 1) (by rfl) (by rfl) d_Reckoner_joint_84) d_Reckoner_joint_85) (og_i2l_ (og_iload_n (i := 2) (j := 2) (by rfl) (by rfl) d_Reckoner_joint_86) d_Reckoner_joint_87) d_Reckoner_joint_88) d_Reckoner_joint_89)) (fun hx => og_scs (fun hx => og_sat (by simp at hx; subst hx; rfl) (og_sretl (og_lsub_ (og_i2l_ (og_iload_n (i := 1) (j := 1) (by rfl) (by rfl) d_Reckoner_joint_90) d_Reckoner_joint_91) (og_i2l_ (og_iload_n (i := 2) (j := 2) (by rfl) (by rfl) d_Reckoner_joint_92) d_Reckoner_joint_93) d_Reckoner_joint_94) d_Reckoner_joint_95)) (fun hx => og_scs (fun hx => og_sat (by simp at hx; subst hx; rfl) (og_sretl (og_lmul_ (og_i2l_ (og_iload_n (i := 1) (j := 1) (by rfl) (by rfl) d_Reckoner_joint_96) d_Reckoner_joint_97) (og_i2l_ (og_iload_n (i := 2) (j := 2) (by rfl) (by rfl) d_Reckoner_joint_98) d_Reckoner_joint_99) d_Reckoner_joint_100) d_Reckoner_joint_101)) (fun hx => og_scs (fun hx => og_sat (by simp at hx; subst hx; rfl) (og_sretl (og_eite (og_ccn og_n_eq (og_zne (tgt := 110) (og_iload_n (i := 2) (j := 2) (by rfl) (by rfl) d_Reckoner_joint_102) d_Reckoner_joint_103 (by decide))) (og_lconst (x := 0) d_Reckoner_joint_106) d_Reckoner_joint_107 (by decide) (og_i2l_ (og_callSi (og_acons (og_iload_n (i := 1) (j := 1) (by rfl) (by rfl) d_Reckoner_joint_110) (og_acons (og_iload_n (i := 2) (j := 2) (by rfl) (by rfl) d_Reckoner_joint_111) (og_anil))) (by decide) ok_J_floorDiv (v_J_floorDiv (by decide)) og_w763 d_Reckoner_joint_112) d_Reckoner_joint_115)) d_Reckoner_joint_116)) (fun hx => og_scs (fun hx => og_sat (by simp at hx; subst hx; rfl) (og_sretl (og_eite (og_ccn og_n_lt (og_ige (tgt := 126) (og_iload_n (i := 1) (j := 1) (by rfl) (by rfl) d_Reckoner_joint_117) (og_iload_n (i := 2) (j := 2) (by rfl) (by rfl) d_Reckoner_joint_118) d_Reckoner_joint_119 (by decide))) (og_lconst (x := 1) d_Reckoner_joint_122) d_Reckoner_joint_123 (by decide) (og_lconst (x := 0) d_Reckoner_joint_126)) d_Reckoner_joint_127)) (fun hx => og_scs (fun hx => og_sat (by simp at hx; subst hx; rfl) (og_sretl (og_eite (og_ccn og_n_gt (og_ile (tgt := 137) (og_iload_n (i := 1) (j := 1) (by rfl) (by rfl) d_Reckoner_joint_128) (og_iload_n (i := 2) (j := 2) (by rfl) (by rfl) d_Reckoner_joint_129) d_Reckoner_joint_130 (by decide))) (og_lconst (x := 1) d_Reckoner_joint_133) d_Reckoner_joint_134 (by decide) (og_lconst (x := 0) d_Reckoner_joint_137)) d_Reckoner_joint_138)) (fun hx => og_scs (fun hx => og_sat (by simp at hx; subst hx; rfl) (og_sretl (og_eite (og_ccn og_n_eq (og_ine (tgt := 148) (og_iload_n (i := 1) (j := 1) (by rfl) (by rfl) d_Reckoner_joint_139) (og_iload_n (i := 2) (j := 2) (by rfl) (by rfl) d_Reckoner_joint_140) d_Reckoner_joint_141 (by decide))) (og_lconst (x := 1) d_Reckoner_joint_144) d_Reckoner_joint_145 (by decide) (og_lconst (x := 0) d_Reckoner_joint_148)) d_Reckoner_joint_149)) (fun hx => og_scs (fun hx => og_sat (by simp at hx; rcases hx with rfl | rfl <;> rfl) (og_sretl (og_i2l_ (og_imin (og_iload_n (i := 1) (j := 1) (by rfl) (by rfl) d_Reckoner_joint_150) (og_iload_n (i := 2) (j := 2) (by rfl) (by rfl) d_Reckoner_joint_151) (by decide) (by decide) og_w746 og_w747 og_w19 og_w748 d_Reckoner_joint_152) d_Reckoner_joint_155) d_Reckoner_joint_156)) (fun hx => og_sat (og_lkn (by simp_all)) (og_sretl (og_i2l_ (og_imax (og_iload_n (i := 1) (j := 1) (by rfl) (by rfl) d_Reckoner_joint_157) (og_iload_n (i := 2) (j := 2) (by rfl) (by rfl) d_Reckoner_joint_158) (by decide) (by decide) og_w766 og_w767 og_w19 og_w768 d_Reckoner_joint_159) d_Reckoner_joint_162) d_Reckoner_joint_163))))))))))) (fun h => by cases h)
abbrev og_c_Reckoner_value : ByteArray := prog_7_method_2_code
abbrev og_y_Reckoner_value : MethodName := ⟨"OpenGraves$Reckoner", "value", "(LOpenGraves$Script;ILOpenGraves$Yard;II)I"⟩
theorem v_Reckoner_value {own : String} {idx dep : Nat} (h : 3 + 1 ≤ dep) : og_sV own idx og_y_Reckoner_value og_c_Reckoner_value 11 0 3 dep 5 5 := ⟨⟨4, og_sl_Reckoner, og_T_Reckoner, 1, rfl, by decide, rfl⟩, og_w743, og_w744, og_w12, og_w745, ⟨by decide +kernel, by decide +kernel, by decide +kernel⟩, h, by decide⟩
theorem d_Reckoner_value_0 : decode og_c_Reckoner_value 0 = .ok (.iconst 0, 1) := by decide +kernel
theorem d_Reckoner_value_1 : decode og_c_Reckoner_value 1 = .ok (.istore 6, 2) := by decide +kernel
theorem d_Reckoner_value_3 : decode og_c_Reckoner_value 3 = .ok (.aload_n 1, 1) := by decide +kernel
theorem d_Reckoner_value_4 : decode og_c_Reckoner_value 4 = .ok (.getfield 15, 3) := by decide +kernel
theorem d_Reckoner_value_7 : decode og_c_Reckoner_value 7 = .ok (.iload_n 2, 1) := by decide +kernel
theorem d_Reckoner_value_8 : decode og_c_Reckoner_value 8 = .ok (.iaload, 1) := by decide +kernel
theorem d_Reckoner_value_9 : decode og_c_Reckoner_value 9 = .ok (.aload_n 1, 1) := by decide +kernel
theorem d_Reckoner_value_10 : decode og_c_Reckoner_value 10 = .ok (.getfield 20, 3) := by decide +kernel
theorem d_Reckoner_value_13 : decode og_c_Reckoner_value 13 = .ok (.arraylength, 1) := by decide +kernel
theorem d_Reckoner_value_14 : decode og_c_Reckoner_value 14 = .ok (.invokestatic 23, 3) := by decide +kernel
theorem d_Reckoner_value_17 : decode og_c_Reckoner_value 17 = .ok (.istore 7, 2) := by decide +kernel
theorem d_Reckoner_value_19 : decode og_c_Reckoner_value 19 = .ok (.aload_n 1, 1) := by decide +kernel
theorem d_Reckoner_value_20 : decode og_c_Reckoner_value 20 = .ok (.getfield 29, 3) := by decide +kernel
theorem d_Reckoner_value_23 : decode og_c_Reckoner_value 23 = .ok (.iload_n 2, 1) := by decide +kernel
theorem d_Reckoner_value_24 : decode og_c_Reckoner_value 24 = .ok (.iaload, 1) := by decide +kernel
theorem d_Reckoner_value_25 : decode og_c_Reckoner_value 25 = .ok (.istore 8, 2) := by decide +kernel
theorem d_Reckoner_value_27 : decode og_c_Reckoner_value 27 = .ok (.iload 8, 2) := by decide +kernel
theorem d_Reckoner_value_29 : decode og_c_Reckoner_value 29 = .ok (.iload 7, 2) := by decide +kernel
theorem d_Reckoner_value_31 : decode og_c_Reckoner_value 31 = .ok (.if_icmp .ge 184, 3) := by decide +kernel
theorem d_Reckoner_value_34 : decode og_c_Reckoner_value 34 = .ok (.aload_n 1, 1) := by decide +kernel
theorem d_Reckoner_value_35 : decode og_c_Reckoner_value 35 = .ok (.getfield 20, 3) := by decide +kernel
theorem d_Reckoner_value_38 : decode og_c_Reckoner_value 38 = .ok (.iload 8, 2) := by decide +kernel
theorem d_Reckoner_value_40 : decode og_c_Reckoner_value 40 = .ok (.iaload, 1) := by decide +kernel
theorem d_Reckoner_value_41 : decode og_c_Reckoner_value 41 = .ok (.istore 9, 2) := by decide +kernel
theorem d_Reckoner_value_43 : decode og_c_Reckoner_value 43 = .ok (.iconst (-1), 1) := by decide +kernel
theorem d_Reckoner_value_44 : decode og_c_Reckoner_value 44 = .ok (.iload 9, 2) := by decide +kernel
theorem d_Reckoner_value_46 : decode og_c_Reckoner_value 46 = .ok (.isub, 1) := by decide +kernel
theorem d_Reckoner_value_47 : decode og_c_Reckoner_value 47 = .ok (.istore 10, 2) := by decide +kernel
theorem d_Reckoner_value_49 : decode og_c_Reckoner_value 49 = .ok (.iload 9, 2) := by decide +kernel
theorem d_Reckoner_value_51 : decode og_c_Reckoner_value 51 = .ok (.ifCond .ge 11, 3) := by decide +kernel
theorem d_Reckoner_value_54 : decode og_c_Reckoner_value 54 = .ok (.iload 10, 2) := by decide +kernel
theorem d_Reckoner_value_56 : decode og_c_Reckoner_value 56 = .ok (.invokestatic 32, 3) := by decide +kernel
theorem d_Reckoner_value_59 : decode og_c_Reckoner_value 59 = .ok (.ifCond .eq 43, 3) := by decide +kernel
theorem d_Reckoner_value_62 : decode og_c_Reckoner_value 62 = .ok (.iload 6, 2) := by decide +kernel
theorem d_Reckoner_value_64 : decode og_c_Reckoner_value 64 = .ok (.bipush 64, 2) := by decide +kernel
theorem d_Reckoner_value_66 : decode og_c_Reckoner_value 66 = .ok (.if_icmp .ge 143, 3) := by decide +kernel
theorem d_Reckoner_value_69 : decode og_c_Reckoner_value 69 = .ok (.aload_n 0, 1) := by decide +kernel
theorem d_Reckoner_value_70 : decode og_c_Reckoner_value 70 = .ok (.getfield 11, 3) := by decide +kernel
theorem d_Reckoner_value_73 : decode og_c_Reckoner_value 73 = .ok (.iload 6, 2) := by decide +kernel
theorem d_Reckoner_value_75 : decode og_c_Reckoner_value 75 = .ok (.iload 9, 2) := by decide +kernel
theorem d_Reckoner_value_77 : decode og_c_Reckoner_value 77 = .ok (.ifCond .lt 8, 3) := by decide +kernel
theorem d_Reckoner_value_80 : decode og_c_Reckoner_value 80 = .ok (.iload 9, 2) := by decide +kernel
theorem d_Reckoner_value_82 : decode og_c_Reckoner_value 82 = .ok (.goto 13, 3) := by decide +kernel
theorem d_Reckoner_value_85 : decode og_c_Reckoner_value 85 = .ok (.iload 10, 2) := by decide +kernel
theorem d_Reckoner_value_87 : decode og_c_Reckoner_value 87 = .ok (.aload_n 3, 1) := by decide +kernel
theorem d_Reckoner_value_88 : decode og_c_Reckoner_value 88 = .ok (.iload 4, 2) := by decide +kernel
theorem d_Reckoner_value_90 : decode og_c_Reckoner_value 90 = .ok (.iload 5, 2) := by decide +kernel
theorem d_Reckoner_value_92 : decode og_c_Reckoner_value 92 = .ok (.invokestatic 36, 3) := by decide +kernel
theorem d_Reckoner_value_95 : decode og_c_Reckoner_value 95 = .ok (.iastore, 1) := by decide +kernel
theorem d_Reckoner_value_96 : decode og_c_Reckoner_value 96 = .ok (.iinc 6 1, 3) := by decide +kernel
theorem d_Reckoner_value_99 : decode og_c_Reckoner_value 99 = .ok (.goto 110, 3) := by decide +kernel
theorem d_Reckoner_value_102 : decode og_c_Reckoner_value 102 = .ok (.iload 10, 2) := by decide +kernel
theorem d_Reckoner_value_104 : decode og_c_Reckoner_value 104 = .ok (.bipush 21, 2) := by decide +kernel
theorem d_Reckoner_value_106 : decode og_c_Reckoner_value 106 = .ok (.if_icmp .eq 16, 3) := by decide +kernel
theorem d_Reckoner_value_109 : decode og_c_Reckoner_value 109 = .ok (.iload 10, 2) := by decide +kernel
theorem d_Reckoner_value_111 : decode og_c_Reckoner_value 111 = .ok (.bipush 18, 2) := by decide +kernel
theorem d_Reckoner_value_113 : decode og_c_Reckoner_value 113 = .ok (.if_icmp .eq 9, 3) := by decide +kernel
theorem d_Reckoner_value_116 : decode og_c_Reckoner_value 116 = .ok (.iload 10, 2) := by decide +kernel
theorem d_Reckoner_value_118 : decode og_c_Reckoner_value 118 = .ok (.iconst 3, 1) := by decide +kernel
theorem d_Reckoner_value_119 : decode og_c_Reckoner_value 119 = .ok (.if_icmp .ne 38, 3) := by decide +kernel
theorem d_Reckoner_value_122 : decode og_c_Reckoner_value 122 = .ok (.iload 6, 2) := by decide +kernel
theorem d_Reckoner_value_124 : decode og_c_Reckoner_value 124 = .ok (.iconst 1, 1) := by decide +kernel
theorem d_Reckoner_value_125 : decode og_c_Reckoner_value 125 = .ok (.if_icmp .lt 84, 3) := by decide +kernel
theorem d_Reckoner_value_128 : decode og_c_Reckoner_value 128 = .ok (.aload_n 0, 1) := by decide +kernel
theorem d_Reckoner_value_129 : decode og_c_Reckoner_value 129 = .ok (.getfield 11, 3) := by decide +kernel
theorem d_Reckoner_value_132 : decode og_c_Reckoner_value 132 = .ok (.iload 6, 2) := by decide +kernel
theorem d_Reckoner_value_134 : decode og_c_Reckoner_value 134 = .ok (.iconst 1, 1) := by decide +kernel
theorem d_Reckoner_value_135 : decode og_c_Reckoner_value 135 = .ok (.isub, 1) := by decide +kernel
theorem d_Reckoner_value_136 : decode og_c_Reckoner_value 136 = .ok (.iload 10, 2) := by decide +kernel
theorem d_Reckoner_value_138 : decode og_c_Reckoner_value 138 = .ok (.aload_n 0, 1) := by decide +kernel
theorem d_Reckoner_value_139 : decode og_c_Reckoner_value 139 = .ok (.getfield 11, 3) := by decide +kernel
theorem d_Reckoner_value_142 : decode og_c_Reckoner_value 142 = .ok (.iload 6, 2) := by decide +kernel
theorem d_Reckoner_value_144 : decode og_c_Reckoner_value 144 = .ok (.iconst 1, 1) := by decide +kernel
theorem d_Reckoner_value_145 : decode og_c_Reckoner_value 145 = .ok (.isub, 1) := by decide +kernel
theorem d_Reckoner_value_146 : decode og_c_Reckoner_value 146 = .ok (.iaload, 1) := by decide +kernel
theorem d_Reckoner_value_147 : decode og_c_Reckoner_value 147 = .ok (.aload_n 3, 1) := by decide +kernel
theorem d_Reckoner_value_148 : decode og_c_Reckoner_value 148 = .ok (.iload 4, 2) := by decide +kernel
theorem d_Reckoner_value_150 : decode og_c_Reckoner_value 150 = .ok (.invokestatic 40, 3) := by decide +kernel
theorem d_Reckoner_value_153 : decode og_c_Reckoner_value 153 = .ok (.iastore, 1) := by decide +kernel
theorem d_Reckoner_value_154 : decode og_c_Reckoner_value 154 = .ok (.goto 55, 3) := by decide +kernel
theorem d_Reckoner_value_157 : decode og_c_Reckoner_value 157 = .ok (.iload 6, 2) := by decide +kernel
theorem d_Reckoner_value_159 : decode og_c_Reckoner_value 159 = .ok (.iconst 2, 1) := by decide +kernel
theorem d_Reckoner_value_160 : decode og_c_Reckoner_value 160 = .ok (.if_icmp .lt 49, 3) := by decide +kernel
theorem d_Reckoner_value_163 : decode og_c_Reckoner_value 163 = .ok (.iinc 6 (-1), 3) := by decide +kernel
theorem d_Reckoner_value_166 : decode og_c_Reckoner_value 166 = .ok (.aload_n 0, 1) := by decide +kernel
theorem d_Reckoner_value_167 : decode og_c_Reckoner_value 167 = .ok (.getfield 11, 3) := by decide +kernel
theorem d_Reckoner_value_170 : decode og_c_Reckoner_value 170 = .ok (.iload 6, 2) := by decide +kernel
theorem d_Reckoner_value_172 : decode og_c_Reckoner_value 172 = .ok (.iconst 1, 1) := by decide +kernel
theorem d_Reckoner_value_173 : decode og_c_Reckoner_value 173 = .ok (.isub, 1) := by decide +kernel
theorem d_Reckoner_value_174 : decode og_c_Reckoner_value 174 = .ok (.ldc2_w 44, 3) := by decide +kernel
theorem d_Reckoner_value_177 : decode og_c_Reckoner_value 177 = .ok (.ldc2_w 46, 3) := by decide +kernel
theorem d_Reckoner_value_180 : decode og_c_Reckoner_value 180 = .ok (.iload 10, 2) := by decide +kernel
theorem d_Reckoner_value_182 : decode og_c_Reckoner_value 182 = .ok (.aload_n 0, 1) := by decide +kernel
theorem d_Reckoner_value_183 : decode og_c_Reckoner_value 183 = .ok (.getfield 11, 3) := by decide +kernel
theorem d_Reckoner_value_186 : decode og_c_Reckoner_value 186 = .ok (.iload 6, 2) := by decide +kernel
theorem d_Reckoner_value_188 : decode og_c_Reckoner_value 188 = .ok (.iconst 1, 1) := by decide +kernel
theorem d_Reckoner_value_189 : decode og_c_Reckoner_value 189 = .ok (.isub, 1) := by decide +kernel
theorem d_Reckoner_value_190 : decode og_c_Reckoner_value 190 = .ok (.iaload, 1) := by decide +kernel
theorem d_Reckoner_value_191 : decode og_c_Reckoner_value 191 = .ok (.aload_n 0, 1) := by decide +kernel
theorem d_Reckoner_value_192 : decode og_c_Reckoner_value 192 = .ok (.getfield 11, 3) := by decide +kernel
theorem d_Reckoner_value_195 : decode og_c_Reckoner_value 195 = .ok (.iload 6, 2) := by decide +kernel
theorem d_Reckoner_value_197 : decode og_c_Reckoner_value 197 = .ok (.iaload, 1) := by decide +kernel
theorem d_Reckoner_value_198 : decode og_c_Reckoner_value 198 = .ok (.invokestatic 48, 3) := by decide +kernel
theorem d_Reckoner_value_201 : decode og_c_Reckoner_value 201 = .ok (.invokestatic 52, 3) := by decide +kernel
theorem d_Reckoner_value_204 : decode og_c_Reckoner_value 204 = .ok (.invokestatic 55, 3) := by decide +kernel
theorem d_Reckoner_value_207 : decode og_c_Reckoner_value 207 = .ok (.l2i, 1) := by decide +kernel
theorem d_Reckoner_value_208 : decode og_c_Reckoner_value 208 = .ok (.iastore, 1) := by decide +kernel
theorem d_Reckoner_value_209 : decode og_c_Reckoner_value 209 = .ok (.iinc 8 1, 3) := by decide +kernel
theorem d_Reckoner_value_212 : decode og_c_Reckoner_value 212 = .ok (.goto (-185), 3) := by decide +kernel
theorem d_Reckoner_value_215 : decode og_c_Reckoner_value 215 = .ok (.iload 6, 2) := by decide +kernel
theorem d_Reckoner_value_217 : decode og_c_Reckoner_value 217 = .ok (.ifCond .le 12, 3) := by decide +kernel
theorem d_Reckoner_value_220 : decode og_c_Reckoner_value 220 = .ok (.aload_n 0, 1) := by decide +kernel
theorem d_Reckoner_value_221 : decode og_c_Reckoner_value 221 = .ok (.getfield 11, 3) := by decide +kernel
theorem d_Reckoner_value_224 : decode og_c_Reckoner_value 224 = .ok (.iconst 0, 1) := by decide +kernel
theorem d_Reckoner_value_225 : decode og_c_Reckoner_value 225 = .ok (.iaload, 1) := by decide +kernel
theorem d_Reckoner_value_226 : decode og_c_Reckoner_value 226 = .ok (.goto 4, 3) := by decide +kernel
theorem d_Reckoner_value_229 : decode og_c_Reckoner_value 229 = .ok (.iconst 0, 1) := by decide +kernel
theorem d_Reckoner_value_230 : decode og_c_Reckoner_value 230 = .ok (.ireturn, 1) := by decide +kernel
def m_Reckoner_value : og_Dn := og_den [9, 15, 0, 16, 0, 0] 11 0 (og_seq (og_set 6 (og_k 0)) (og_seq (og_set 7 (og_min (og_ald 14 (og_fix (fun i => i + 3) (og_loc 1)) (og_loc 2)) (og_len 1620 (og_fix (fun i => i + 1) (og_loc 1))))) (og_cut (og_seq (og_set 8 (og_ald 14 (og_fix (fun i => i + 2) (og_loc 1)) (og_loc 2))) (og_while (og_cc og_rlt (og_loc 8) (og_loc 7)) (og_seq (og_set 9 (og_ald 1620 (og_fix (fun i => i + 1) (og_loc 1)) (og_loc 8))) (og_seq (og_set 10 (og_sub (og_k (-1)) (og_loc 9))) (og_if (og_or (og_cc og_rge (og_loc 9) (og_k 0)) (og_cb (og_call m_Reckoner_isPlain [og_loc 10]))) (og_if (og_cc og_rlt (og_loc 6) (og_k 64)) (og_seq (og_ast 64 (og_fix (fun _ => 7) (og_loc 0)) (og_loc 6) (og_ei (og_cc og_rge (og_loc 9) (og_k 0)) (og_loc 9) (og_call m_Reckoner_plain [og_loc 10, og_loc 3, og_loc 4, og_loc 5]))) (og_inc 6 1)) (og_skip)) (og_if (og_or (og_or (og_cc og_req (og_loc 10) (og_k 21)) (og_cc og_req (og_loc 10) (og_k 18))) (og_cc og_req (og_loc 10) (og_k 3))) (og_if (og_cc og_rge (og_loc 6) (og_k 1)) (og_ast 64 (og_fix (fun _ => 7) (og_loc 0)) (og_sub (og_loc 6) (og_k 1)) (og_call m_Reckoner_single [og_loc 10, og_ald 64 (og_fix (fun _ => 7) (og_loc 0)) (og_sub (og_loc 6) (og_k 1)), og_loc 3, og_loc 4])) (og_skip)) (og_if (og_cc og_rge (og_loc 6) (og_k 2)) (og_seq (og_inc 6 (-1)) (og_ast 64 (og_fix (fun _ => 7) (og_loc 0)) (og_sub (og_loc 6) (og_k 1)) (og_l2i (og_max (og_k (-1000000)) (og_min (og_k 1000000) (og_call m_Reckoner_joint [og_loc 10, og_ald 64 (og_fix (fun _ => 7) (og_loc 0)) (og_sub (og_loc 6) (og_k 1)), og_ald 64 (og_fix (fun _ => 7) (og_loc 0)) (og_loc 6)])))))) (og_skip)))))) (og_inc 8 1))) (og_ret (og_ei (og_cc og_rgt (og_loc 6) (og_k 0)) (og_ald 64 (og_fix (fun _ => 7) (og_loc 0)) (og_k 0)) (og_k 0))))))
set_option maxRecDepth 20000 in
theorem ok_Reckoner_value : og_MOK og_y_Reckoner_value og_c_Reckoner_value 11 0 3 [9, 15, 0, 16, 0, 0] m_Reckoner_value := og_method (b := 0) (lt' := []) (by decide +kernel) (by decide) (by decide) (og_sseq (og_istore (i := 6) (lt' := [(0, 9), (1, 15), (2, 0), (3, 16), (4, 0), (5, 0), (6, 0)]) (og_iconst (by decide) d_Reckoner_value_0) (by decide) (by decide) d_Reckoner_value_1) (og_sseq (og_istore (i := 7) (lt' := [(0, 9), (1, 15), (2, 0), (3, 16), (4, 0), (5, 0), (6, 0), (7, 0)]) (og_imin (og_iald (N := 14) (og_f_Script_to_N (og_aload_n (i := 1) (t := 13) (j := 1) (by rfl) (by rfl) d_Reckoner_value_3) og_w136 d_Reckoner_value_4) (by rfl) (og_iload_n (i := 2) (j := 2) (by rfl) (by rfl) d_Reckoner_value_7) d_Reckoner_value_8) (og_alen (N := 1620) (et := 0) (og_f_Script_cells_N (og_aload_n (i := 1) (t := 13) (j := 1) (by rfl) (by rfl) d_Reckoner_value_9) og_w132 d_Reckoner_value_10) (by rfl) (by decide) d_Reckoner_value_13) (by decide) (by decide) og_w746 og_w747 og_w19 og_w748 d_Reckoner_value_14) (by decide) (by decide) d_Reckoner_value_17) (og_scut (og_sdrop (lt' := [(0, 9), (1, 15), (2, 0), (3, 16), (4, 0), (5, 0), (6, 0), (7, 0), (8, 0)]) (lt2 := [(0, 9), (1, 15), (2, 0), (3, 16), (4, 0), (5, 0), (6, 0), (7, 0)]) (og_sseq (og_istore (i := 8) (lt' := [(0, 9), (1, 15), (2, 0), (3, 16), (4, 0), (5, 0), (6, 0), (7, 0), (8, 0)]) (og_iald (N := 14) (og_f_Script_from_N (og_aload_n (i := 1) (t := 13) (j := 1) (by rfl) (by rfl) d_Reckoner_value_19) og_w134 d_Reckoner_value_20) (by rfl) (og_iload_n (i := 2) (j := 2) (by rfl) (by rfl) d_Reckoner_value_23) d_Reckoner_value_24) (by decide) (by decide) d_Reckoner_value_25) (og_swhile (T := 34) (F := 215) (cp0 := 209) (og_ccn og_n_lt (og_ige (tgt := 215) (og_iload (i := 8) (j := 8) (by rfl) d_Reckoner_value_27) (og_iload (i := 7) (j := 7) (by rfl) d_Reckoner_value_29) d_Reckoner_value_31 (by decide))) (og_sdrop (lt' := [(0, 9), (1, 15), (2, 0), (3, 16), (4, 0), (5, 0), (6, 0), (7, 0), (8, 0), (9, 0), (10, 0)]) (lt2 := [(0, 9), (1, 15), (2, 0), (3, 16), (4, 0), (5, 0), (6, 0), (7, 0), (8, 0)]) (og_sseq (og_istore (i := 9) (lt' := [(0, 9), (1, 15), (2, 0), (3, 16), (4, 0), (5, 0), (6, 0), (7, 0), (8, 0), (9, 0)]) (og_iald (N := 1620) (og_f_Script_cells_N (og_aload_n (i := 1) (t := 13) (j := 1) (by rfl) (by rfl) d_Reckoner_value_34) og_w132 d_Reckoner_value_35) (by rfl) (og_iload (i := 8) (j := 8) (by rfl) d_Reckoner_value_38) d_Reckoner_value_40) (by decide) (by decide) d_Reckoner_value_41) (og_sseq (og_istore (i := 10) (lt' := [(0, 9), (1, 15), (2, 0), (3, 16), (4, 0), (5, 0), (6, 0), (7, 0), (8, 0), (9, 0), (10, 0)]) (og_isub (og_iconst (by decide) d_Reckoner_value_43) (og_iload (i := 9) (j := 9) (by rfl) d_Reckoner_value_44) d_Reckoner_value_46) (by decide) (by decide) d_Reckoner_value_47) (og_sif (T := 62) (F := 102) (og_cor (og_zge (tgt := 62) (og_iload (i := 9) (j := 9) (by rfl) d_Reckoner_value_49) d_Reckoner_value_51 (by decide)) (og_cbeq (tgt := 102) (og_callSz (og_acons (og_iload (i := 10) (j := 10) (by rfl) d_Reckoner_value_54) (og_anil)) (by decide) ok_Reckoner_isPlain (v_Reckoner_isPlain (by decide)) og_w749 d_Reckoner_value_56) d_Reckoner_value_59 (by decide))) (og_sif (T := 69) (F := 209) (og_ccn og_n_lt (og_ige (tgt := 209) (og_iload (i := 6) (j := 6) (by rfl) d_Reckoner_value_62) (og_bipush (by decide) d_Reckoner_value_64) d_Reckoner_value_66 (by decide))) (og_sseq (og_iastore (N := 64) (og_f_Reckoner_pile (og_aload_n (i := 0) (t := 7) (j := 0) (by rfl) (by rfl) d_Reckoner_value_69) og_w292 d_Reckoner_value_70) (by rfl) (og_iload (i := 6) (j := 6) (by rfl) d_Reckoner_value_73) (og_eite (og_ccn og_n_ge (og_zlt (tgt := 85) (og_iload (i := 9) (j := 9) (by rfl) d_Reckoner_value_75) d_Reckoner_value_77 (by decide))) (og_iload (i := 9) (j := 9) (by rfl) d_Reckoner_value_80) d_Reckoner_value_82 (by decide) (og_callSi (og_acons (og_iload (i := 10) (j := 10) (by rfl) d_Reckoner_value_85) (og_acons (og_aload_n (i := 3) (t := 14) (j := 3) (by rfl) (by rfl) d_Reckoner_value_87) (og_acons (og_iload (i := 4) (j := 4) (by rfl) d_Reckoner_value_88) (og_acons (og_iload (i := 5) (j := 5) (by rfl) d_Reckoner_value_90) (og_anil))))) (by decide) ok_Reckoner_plain (v_Reckoner_plain (by decide)) og_w752 d_Reckoner_value_92)) d_Reckoner_value_95) (og_gS (b' := 209) (og_iinc (j := 6) (lt' := [(0, 9), (1, 15), (2, 0), (3, 16), (4, 0), (5, 0), (6, 0), (7, 0), (8, 0), (9, 0), (10, 0)]) (by rfl) (by decide) (by decide) d_Reckoner_value_96) d_Reckoner_value_99 (by decide))) (og_sskip)) (og_sif (T := 122) (F := 157) (og_cor (og_cor (og_ieq (tgt := 122) (og_iload (i := 10) (j := 10) (by rfl) d_Reckoner_value_102) (og_bipush (by decide) d_Reckoner_value_104) d_Reckoner_value_106 (by decide)) (og_ieq (tgt := 122) (og_iload (i := 10) (j := 10) (by rfl) d_Reckoner_value_109) (og_bipush (by decide) d_Reckoner_value_111) d_Reckoner_value_113 (by decide))) (og_ccn og_n_eq (og_ine (tgt := 157) (og_iload (i := 10) (j := 10) (by rfl) d_Reckoner_value_116) (og_iconst (by decide) d_Reckoner_value_118) d_Reckoner_value_119 (by decide)))) (og_sif (T := 128) (F := 209) (og_ccn og_n_ge (og_ilt (tgt := 209) (og_iload (i := 6) (j := 6) (by rfl) d_Reckoner_value_122) (og_iconst (by decide) d_Reckoner_value_124) d_Reckoner_value_125 (by decide))) (og_gS (b' := 209) (og_iastore (N := 64) (og_f_Reckoner_pile (og_aload_n (i := 0) (t := 7) (j := 0) (by rfl) (by rfl) d_Reckoner_value_128) og_w292 d_Reckoner_value_129) (by rfl) (og_isub (og_iload (i := 6) (j := 6) (by rfl) d_Reckoner_value_132) (og_iconst (by decide) d_Reckoner_value_134) d_Reckoner_value_135) (og_callSi (og_acons (og_iload (i := 10) (j := 10) (by rfl) d_Reckoner_value_136) (og_acons (og_iald (N := 64) (og_f_Reckoner_pile (og_aload_n (i := 0) (t := 7) (j := 0) (by rfl) (by rfl) d_Reckoner_value_138) og_w292 d_Reckoner_value_139) (by rfl) (og_isub (og_iload (i := 6) (j := 6) (by rfl) d_Reckoner_value_142) (og_iconst (by decide) d_Reckoner_value_144) d_Reckoner_value_145) d_Reckoner_value_146) (og_acons (og_aload_n (i := 3) (t := 14) (j := 3) (by rfl) (by rfl) d_Reckoner_value_147) (og_acons (og_iload (i := 4) (j := 4) (by rfl) d_Reckoner_value_148) (og_anil))))) (by decide) ok_Reckoner_single (v_Reckoner_single (by decide)) og_w755 d_Reckoner_value_150) d_Reckoner_value_153) d_Reckoner_value_154 (by decide)) (og_sskip)) (og_sif (T := 163) (F := 209) (og_ccn og_n_ge (og_ilt (tgt := 209) (og_iload (i := 6) (j := 6) (by rfl) d_Reckoner_value_157) (og_iconst (by decide) d_Reckoner_value_159) d_Reckoner_value_160 (by decide))) (og_sseq (og_iinc (j := 6) (lt' := [(0, 9), (1, 15), (2, 0), (3, 16), (4, 0), (5, 0), (6, 0), (7, 0), (8, 0), (9, 0), (10, 0)]) (by rfl) (by decide) (by decide) d_Reckoner_value_163) (og_iastore (N := 64) (og_f_Reckoner_pile (og_aload_n (i := 0) (t := 7) (j := 0) (by rfl) (by rfl) d_Reckoner_value_166) og_w292 d_Reckoner_value_167) (by rfl) (og_isub (og_iload (i := 6) (j := 6) (by rfl) d_Reckoner_value_170) (og_iconst (by decide) d_Reckoner_value_172) d_Reckoner_value_173) (og_l2i_ (og_lmax (og_ldc2 (x := (-1000000)) (by decide) og_w758 d_Reckoner_value_174) (og_lmin (og_ldc2 (x := 1000000) (by decide) og_w759 d_Reckoner_value_177) (og_callSl (og_acons (og_iload (i := 10) (j := 10) (by rfl) d_Reckoner_value_180) (og_acons (og_iald (N := 64) (og_f_Reckoner_pile (og_aload_n (i := 0) (t := 7) (j := 0) (by rfl) (by rfl) d_Reckoner_value_182) og_w292 d_Reckoner_value_183) (by rfl) (og_isub (og_iload (i := 6) (j := 6) (by rfl) d_Reckoner_value_186) (og_iconst (by decide) d_Reckoner_value_188) d_Reckoner_value_189) d_Reckoner_value_190) (og_acons (og_iald (N := 64) (og_f_Reckoner_pile (og_aload_n (i := 0) (t := 7) (j := 0) (by rfl) (by rfl) d_Reckoner_value_191) og_w292 d_Reckoner_value_192) (by rfl) (og_iload (i := 6) (j := 6) (by rfl) d_Reckoner_value_195) d_Reckoner_value_197) (og_anil)))) (by decide) ok_Reckoner_joint (v_Reckoner_joint (by decide)) og_w760 d_Reckoner_value_198) (by decide) (by decide) og_w769 og_w770 og_w19 og_w771 d_Reckoner_value_201) (by decide) (by decide) og_w772 og_w773 og_w19 og_w774 d_Reckoner_value_204) d_Reckoner_value_207) d_Reckoner_value_208)) (og_sskip)))))) (by decide)) (og_gS (b' := 27) (og_iinc (j := 8) (lt' := [(0, 9), (1, 15), (2, 0), (3, 16), (4, 0), (5, 0), (6, 0), (7, 0), (8, 0)]) (by rfl) (by decide) (by decide) d_Reckoner_value_209) d_Reckoner_value_212 (by decide)))) (by decide)) (og_sreti (og_eite (og_ccn og_n_gt (og_zle (tgt := 229) (og_iload (i := 6) (j := 6) (by rfl) d_Reckoner_value_215) d_Reckoner_value_217 (by decide))) (og_iald (N := 64) (og_f_Reckoner_pile (og_aload_n (i := 0) (t := 7) (j := 0) (by rfl) (by rfl) d_Reckoner_value_220) og_w292 d_Reckoner_value_221) (by rfl) (og_iconst (by decide) d_Reckoner_value_224) d_Reckoner_value_225) d_Reckoner_value_226 (by decide) (og_iconst (by decide) d_Reckoner_value_229)) d_Reckoner_value_230)))) (fun h => by cases h)
abbrev og_c_OG_cut : ByteArray := prog_1_method_37_code
abbrev og_y_OG_cut : MethodName := ⟨"OpenGraves", "cut", "(II)I"⟩
theorem v_OG_cut {dep : Nat} (h : 1 + 1 ≤ dep) : og_sS og_y_OG_cut og_c_OG_cut 2 0 1 dep 2 := ⟨og_w776, og_w1, og_w777, ⟨by decide +kernel, by decide +kernel, by decide +kernel⟩, h, by decide⟩
theorem d_OG_cut_0 : decode og_c_OG_cut 0 = .ok (.iconst 0, 1) := by decide +kernel
theorem d_OG_cut_1 : decode og_c_OG_cut 1 = .ok (.iload_n 1, 1) := by decide +kernel
theorem d_OG_cut_2 : decode og_c_OG_cut 2 = .ok (.iload_n 0, 1) := by decide +kernel
theorem d_OG_cut_3 : decode og_c_OG_cut 3 = .ok (.invokestatic 363, 3) := by decide +kernel
theorem d_OG_cut_6 : decode og_c_OG_cut 6 = .ok (.invokestatic 368, 3) := by decide +kernel
theorem d_OG_cut_9 : decode og_c_OG_cut 9 = .ok (.ireturn, 1) := by decide +kernel
def m_OG_cut : og_Dn := og_den [0, 0] 2 0 (og_ret (og_max (og_k 0) (og_min (og_loc 1) (og_loc 0))))
set_option maxRecDepth 20000 in
theorem ok_OG_cut : og_MOK og_y_OG_cut og_c_OG_cut 2 0 1 [0, 0] m_OG_cut := og_method (b := 0) (lt' := []) (by decide +kernel) (by decide) (by decide) (og_sreti (og_imax (og_iconst (by decide) d_OG_cut_0) (og_imin (og_iload_n (i := 1) (j := 1) (by rfl) (by rfl) d_OG_cut_1) (og_iload_n (i := 0) (j := 0) (by rfl) (by rfl) d_OG_cut_2) (by decide) (by decide) og_w778 og_w747 og_w19 og_w748 d_OG_cut_3) (by decide) (by decide) og_w779 og_w767 og_w19 og_w768 d_OG_cut_6) d_OG_cut_9) (fun h => by cases h)
abbrev og_c_OG_dyingOf : ByteArray := prog_1_method_38_code
abbrev og_y_OG_dyingOf : MethodName := ⟨"OpenGraves", "dyingOf", "(I)I"⟩
theorem v_OG_dyingOf {own : String} {idx dep : Nat} (h : 4 + 1 ≤ dep) : og_sV own idx og_y_OG_dyingOf og_c_OG_dyingOf 2 0 4 dep 1 1 := ⟨⟨0, og_sl_OG, og_T_OG, 17, rfl, by decide, rfl⟩, og_w740, (og_memP (⟨"OpenGraves", "dyingOf", "(I)I"⟩, 17) (List.mem_of_getElem? (i := 24) (by decide +kernel))), og_w1, og_w741, ⟨by decide +kernel, by decide +kernel, by decide +kernel⟩, h, by decide⟩
theorem d_OG_dyingOf_0 : decode og_c_OG_dyingOf 0 = .ok (.aload_n 0, 1) := by decide +kernel
theorem d_OG_dyingOf_1 : decode og_c_OG_dyingOf 1 = .ok (.getfield 51, 3) := by decide +kernel
theorem d_OG_dyingOf_4 : decode og_c_OG_dyingOf 4 = .ok (.aload_n 0, 1) := by decide +kernel
theorem d_OG_dyingOf_5 : decode og_c_OG_dyingOf 5 = .ok (.getfield 10, 3) := by decide +kernel
theorem d_OG_dyingOf_8 : decode og_c_OG_dyingOf 8 = .ok (.getfield 37, 3) := by decide +kernel
theorem d_OG_dyingOf_11 : decode og_c_OG_dyingOf 11 = .ok (.bipush 8, 2) := by decide +kernel
theorem d_OG_dyingOf_13 : decode og_c_OG_dyingOf 13 = .ok (.aload_n 0, 1) := by decide +kernel
theorem d_OG_dyingOf_14 : decode og_c_OG_dyingOf 14 = .ok (.getfield 90, 3) := by decide +kernel
theorem d_OG_dyingOf_17 : decode og_c_OG_dyingOf 17 = .ok (.iload_n 1, 1) := by decide +kernel
theorem d_OG_dyingOf_18 : decode og_c_OG_dyingOf 18 = .ok (.iconst 0, 1) := by decide +kernel
theorem d_OG_dyingOf_19 : decode og_c_OG_dyingOf 19 = .ok (.invokevirtual 210, 3) := by decide +kernel
theorem d_OG_dyingOf_22 : decode og_c_OG_dyingOf 22 = .ok (.bipush 100, 2) := by decide +kernel
theorem d_OG_dyingOf_24 : decode og_c_OG_dyingOf 24 = .ok (.invokestatic 371, 3) := by decide +kernel
theorem d_OG_dyingOf_27 : decode og_c_OG_dyingOf 27 = .ok (.ireturn, 1) := by decide +kernel
def m_OG_dyingOf : og_Dn := og_den [5, 0] 2 0 (og_ret (og_call m_OG_cut [og_call m_Reckoner_value [og_fix (fun _ => 6) (og_loc 0), og_fix (fun i => i + 2) (og_get 15 (og_loc 0)), og_k 8, og_fix (fun _ => 100) (og_loc 0), og_loc 1, og_k 0], og_k 100]))
set_option maxRecDepth 20000 in
theorem ok_OG_dyingOf : og_MOK og_y_OG_dyingOf og_c_OG_dyingOf 2 0 4 [5, 0] m_OG_dyingOf := og_method (b := 0) (lt' := []) (by decide +kernel) (by decide) (by decide) (og_sreti (og_callSi (og_acons (og_callVi (og_acons (og_f_OG_reckoner (og_aload_n (i := 0) (t := 3) (j := 0) (by rfl) (by rfl) d_OG_dyingOf_0) og_w392 d_OG_dyingOf_1) (og_acons (og_f_Parish_rules_N (og_f_OG_told (og_aload_n (i := 0) (t := 3) (j := 0) (by rfl) (by rfl) d_OG_dyingOf_4) og_w404 d_OG_dyingOf_5) og_w150 d_OG_dyingOf_8) (og_acons (og_bipush (by decide) d_OG_dyingOf_11) (og_acons (og_f_OG_now (og_aload_n (i := 0) (t := 3) (j := 0) (by rfl) (by rfl) d_OG_dyingOf_13) og_w397 d_OG_dyingOf_14) (og_acons (og_iload_n (i := 1) (j := 1) (by rfl) (by rfl) d_OG_dyingOf_17) (og_acons (og_iconst (by decide) d_OG_dyingOf_18) (og_anil))))))) (by decide) ok_Reckoner_value (v_Reckoner_value (by decide)) og_w742 d_OG_dyingOf_19) (og_acons (og_bipush (by decide) d_OG_dyingOf_22) (og_anil))) (by decide) ok_OG_cut (v_OG_cut (by decide)) og_w775 d_OG_dyingOf_24) d_OG_dyingOf_27) (fun h => by cases h)
abbrev og_c_OG_harmOf : ByteArray := prog_1_method_39_code
abbrev og_y_OG_harmOf : MethodName := ⟨"OpenGraves", "harmOf", "(I)I"⟩
theorem v_OG_harmOf {own : String} {idx dep : Nat} (h : 4 + 1 ≤ dep) : og_sV own idx og_y_OG_harmOf og_c_OG_harmOf 2 0 4 dep 1 1 := ⟨⟨0, og_sl_OG, og_T_OG, 17, rfl, by decide, rfl⟩, og_w782, (og_memP (⟨"OpenGraves", "harmOf", "(I)I"⟩, 17) (List.mem_of_getElem? (i := 25) (by decide +kernel))), og_w1, og_w783, ⟨by decide +kernel, by decide +kernel, by decide +kernel⟩, h, by decide⟩
theorem d_OG_harmOf_0 : decode og_c_OG_harmOf 0 = .ok (.aload_n 0, 1) := by decide +kernel
theorem d_OG_harmOf_1 : decode og_c_OG_harmOf 1 = .ok (.getfield 51, 3) := by decide +kernel
theorem d_OG_harmOf_4 : decode og_c_OG_harmOf 4 = .ok (.aload_n 0, 1) := by decide +kernel
theorem d_OG_harmOf_5 : decode og_c_OG_harmOf 5 = .ok (.getfield 10, 3) := by decide +kernel
theorem d_OG_harmOf_8 : decode og_c_OG_harmOf 8 = .ok (.getfield 37, 3) := by decide +kernel
theorem d_OG_harmOf_11 : decode og_c_OG_harmOf 11 = .ok (.bipush 12, 2) := by decide +kernel
theorem d_OG_harmOf_13 : decode og_c_OG_harmOf 13 = .ok (.aload_n 0, 1) := by decide +kernel
theorem d_OG_harmOf_14 : decode og_c_OG_harmOf 14 = .ok (.getfield 90, 3) := by decide +kernel
theorem d_OG_harmOf_17 : decode og_c_OG_harmOf 17 = .ok (.iload_n 1, 1) := by decide +kernel
theorem d_OG_harmOf_18 : decode og_c_OG_harmOf 18 = .ok (.iconst 0, 1) := by decide +kernel
theorem d_OG_harmOf_19 : decode og_c_OG_harmOf 19 = .ok (.invokevirtual 210, 3) := by decide +kernel
theorem d_OG_harmOf_22 : decode og_c_OG_harmOf 22 = .ok (.sipush 999, 3) := by decide +kernel
theorem d_OG_harmOf_25 : decode og_c_OG_harmOf 25 = .ok (.invokestatic 371, 3) := by decide +kernel
theorem d_OG_harmOf_28 : decode og_c_OG_harmOf 28 = .ok (.ireturn, 1) := by decide +kernel
def m_OG_harmOf : og_Dn := og_den [5, 0] 2 0 (og_ret (og_call m_OG_cut [og_call m_Reckoner_value [og_fix (fun _ => 6) (og_loc 0), og_fix (fun i => i + 2) (og_get 15 (og_loc 0)), og_k 12, og_fix (fun _ => 100) (og_loc 0), og_loc 1, og_k 0], og_k 999]))
set_option maxRecDepth 20000 in
theorem ok_OG_harmOf : og_MOK og_y_OG_harmOf og_c_OG_harmOf 2 0 4 [5, 0] m_OG_harmOf := og_method (b := 0) (lt' := []) (by decide +kernel) (by decide) (by decide) (og_sreti (og_callSi (og_acons (og_callVi (og_acons (og_f_OG_reckoner (og_aload_n (i := 0) (t := 3) (j := 0) (by rfl) (by rfl) d_OG_harmOf_0) og_w392 d_OG_harmOf_1) (og_acons (og_f_Parish_rules_N (og_f_OG_told (og_aload_n (i := 0) (t := 3) (j := 0) (by rfl) (by rfl) d_OG_harmOf_4) og_w404 d_OG_harmOf_5) og_w150 d_OG_harmOf_8) (og_acons (og_bipush (by decide) d_OG_harmOf_11) (og_acons (og_f_OG_now (og_aload_n (i := 0) (t := 3) (j := 0) (by rfl) (by rfl) d_OG_harmOf_13) og_w397 d_OG_harmOf_14) (og_acons (og_iload_n (i := 1) (j := 1) (by rfl) (by rfl) d_OG_harmOf_17) (og_acons (og_iconst (by decide) d_OG_harmOf_18) (og_anil))))))) (by decide) ok_Reckoner_value (v_Reckoner_value (by decide)) og_w742 d_OG_harmOf_19) (og_acons (og_sipush (by decide) d_OG_harmOf_22) (og_anil))) (by decide) ok_OG_cut (v_OG_cut (by decide)) og_w775 d_OG_harmOf_25) d_OG_harmOf_28) (fun h => by cases h)
abbrev og_c_OG_counts : ByteArray := prog_1_method_10_code
abbrev og_y_OG_counts : MethodName := ⟨"OpenGraves", "counts", "(II)J"⟩
theorem v_OG_counts {own : String} {idx dep : Nat} (h : 5 + 1 ≤ dep) : og_sV own idx og_y_OG_counts og_c_OG_counts 3 1 5 dep 1 2 := ⟨⟨0, og_sl_OG, og_T_OG, 17, rfl, by decide, rfl⟩, og_w734, og_w735, og_w1, og_w736, ⟨by decide +kernel, by decide +kernel, by decide +kernel⟩, h, by decide⟩
theorem d_OG_counts_0 : decode og_c_OG_counts 0 = .ok (.aload_n 0, 1) := by decide +kernel
theorem d_OG_counts_1 : decode og_c_OG_counts 1 = .ok (.getfield 90, 3) := by decide +kernel
theorem d_OG_counts_4 : decode og_c_OG_counts 4 = .ok (.iload_n 1, 1) := by decide +kernel
theorem d_OG_counts_5 : decode og_c_OG_counts 5 = .ok (.invokevirtual 175, 3) := by decide +kernel
theorem d_OG_counts_8 : decode og_c_OG_counts 8 = .ok (.ifCond .ne 7, 3) := by decide +kernel
theorem d_OG_counts_11 : decode og_c_OG_counts 11 = .ok (.ldc2_w 205, 3) := by decide +kernel
theorem d_OG_counts_14 : decode og_c_OG_counts 14 = .ok (.lreturn, 1) := by decide +kernel
theorem d_OG_counts_15 : decode og_c_OG_counts 15 = .ok (.iload_n 2, 1) := by decide +kernel
theorem d_OG_counts_16 : decode og_c_OG_counts 16 = .ok (.tableswitch 66 0 2 #[28, 35, 59], 28) := by decide +kernel
theorem d_OG_counts_44 : decode og_c_OG_counts 44 = .ok (.aload_n 0, 1) := by decide +kernel
theorem d_OG_counts_45 : decode og_c_OG_counts 45 = .ok (.iload_n 1, 1) := by decide +kernel
theorem d_OG_counts_46 : decode og_c_OG_counts 46 = .ok (.invokevirtual 207, 3) := by decide +kernel
theorem d_OG_counts_49 : decode og_c_OG_counts 49 = .ok (.i2l, 1) := by decide +kernel
theorem d_OG_counts_50 : decode og_c_OG_counts 50 = .ok (.lreturn, 1) := by decide +kernel
theorem d_OG_counts_51 : decode og_c_OG_counts 51 = .ok (.aload_n 0, 1) := by decide +kernel
theorem d_OG_counts_52 : decode og_c_OG_counts 52 = .ok (.getfield 51, 3) := by decide +kernel
theorem d_OG_counts_55 : decode og_c_OG_counts 55 = .ok (.aload_n 0, 1) := by decide +kernel
theorem d_OG_counts_56 : decode og_c_OG_counts 56 = .ok (.getfield 10, 3) := by decide +kernel
theorem d_OG_counts_59 : decode og_c_OG_counts 59 = .ok (.getfield 37, 3) := by decide +kernel
theorem d_OG_counts_62 : decode og_c_OG_counts 62 = .ok (.bipush 10, 2) := by decide +kernel
theorem d_OG_counts_64 : decode og_c_OG_counts 64 = .ok (.aload_n 0, 1) := by decide +kernel
theorem d_OG_counts_65 : decode og_c_OG_counts 65 = .ok (.getfield 90, 3) := by decide +kernel
theorem d_OG_counts_68 : decode og_c_OG_counts 68 = .ok (.iload_n 1, 1) := by decide +kernel
theorem d_OG_counts_69 : decode og_c_OG_counts 69 = .ok (.iconst 0, 1) := by decide +kernel
theorem d_OG_counts_70 : decode og_c_OG_counts 70 = .ok (.invokevirtual 210, 3) := by decide +kernel
theorem d_OG_counts_73 : decode og_c_OG_counts 73 = .ok (.i2l, 1) := by decide +kernel
theorem d_OG_counts_74 : decode og_c_OG_counts 74 = .ok (.lreturn, 1) := by decide +kernel
theorem d_OG_counts_75 : decode og_c_OG_counts 75 = .ok (.aload_n 0, 1) := by decide +kernel
theorem d_OG_counts_76 : decode og_c_OG_counts 76 = .ok (.iload_n 1, 1) := by decide +kernel
theorem d_OG_counts_77 : decode og_c_OG_counts 77 = .ok (.invokevirtual 214, 3) := by decide +kernel
theorem d_OG_counts_80 : decode og_c_OG_counts 80 = .ok (.i2l, 1) := by decide +kernel
theorem d_OG_counts_81 : decode og_c_OG_counts 81 = .ok (.lreturn, 1) := by decide +kernel
theorem d_OG_counts_82 : decode og_c_OG_counts 82 = .ok (.ldc2_w 205, 3) := by decide +kernel
theorem d_OG_counts_85 : decode og_c_OG_counts 85 = .ok (.lreturn, 1) := by decide +kernel
def m_OG_counts : og_Dn := og_den [5, 0, 0] 3 1 (og_seq (og_if (og_not (og_cb (og_call m_Yard_isPerson [og_fix (fun _ => 100) (og_loc 0), og_loc 1]))) (og_ret (og_k (-1000000000000000))) (og_skip)) (og_sw (og_loc 2) (fun x => og_cs x [0] (og_ret (og_i2l (og_call m_OG_dyingOf [og_loc 0, og_loc 1]))) (og_cs x [1] (og_ret (og_i2l (og_call m_Reckoner_value [og_fix (fun _ => 6) (og_loc 0), og_fix (fun i => i + 2) (og_get 15 (og_loc 0)), og_k 10, og_fix (fun _ => 100) (og_loc 0), og_loc 1, og_k 0]))) (og_cs x [2] (og_ret (og_i2l (og_call m_OG_harmOf [og_loc 0, og_loc 1]))) (og_ret (og_k (-1000000000000000))))))))
set_option maxRecDepth 20000 in
theorem ok_OG_counts : og_MOK og_y_OG_counts og_c_OG_counts 3 1 5 [5, 0, 0] m_OG_counts := og_method (b := 0) (lt' := []) (by decide +kernel) (by decide) (by decide) (og_sseq (og_sif (T := 11) (F := 15) (og_cnot (og_cbne (tgt := 15) (og_callVz (og_acons (og_f_OG_now (og_aload_n (i := 0) (t := 3) (j := 0) (by rfl) (by rfl) d_OG_counts_0) og_w397 d_OG_counts_1) (og_acons (og_iload_n (i := 1) (j := 1) (by rfl) (by rfl) d_OG_counts_4) (og_anil))) (by decide) ok_Yard_isPerson (v_Yard_isPerson (by decide)) og_w720 d_OG_counts_5) d_OG_counts_8 (by decide))) (og_sretl (og_ldc2 (x := (-1000000000000000)) (by decide) og_w737 d_OG_counts_11) d_OG_counts_14) (og_sskip)) (og_stab (b1 := 0) (d := 82) (cs := [(0, 44), (1, 51), (2, 75)]) (og_iload_n (i := 2) (j := 2) (by rfl) (by rfl) d_OG_counts_15) d_OG_counts_16 (by decide) (by decide) (fun x => og_scs (fun hx => og_sat (by simp at hx; subst hx; rfl) (og_sretl (og_i2l_ (og_callVi (og_acons (og_aload_n (i := 0) (t := 3) (j := 0) (by rfl) (by rfl) d_OG_counts_44) (og_acons (og_iload_n (i := 1) (j := 1) (by rfl) (by rfl) d_OG_counts_45) (og_anil))) (by decide) ok_OG_dyingOf (v_OG_dyingOf (by decide)) og_w738 d_OG_counts_46) d_OG_counts_49) d_OG_counts_50)) (fun hx => og_scs (fun hx => og_sat (by simp at hx; subst hx; rfl) (og_sretl (og_i2l_ (og_callVi (og_acons (og_f_OG_reckoner (og_aload_n (i := 0) (t := 3) (j := 0) (by rfl) (by rfl) d_OG_counts_51) og_w392 d_OG_counts_52) (og_acons (og_f_Parish_rules_N (og_f_OG_told (og_aload_n (i := 0) (t := 3) (j := 0) (by rfl) (by rfl) d_OG_counts_55) og_w404 d_OG_counts_56) og_w150 d_OG_counts_59) (og_acons (og_bipush (by decide) d_OG_counts_62) (og_acons (og_f_OG_now (og_aload_n (i := 0) (t := 3) (j := 0) (by rfl) (by rfl) d_OG_counts_64) og_w397 d_OG_counts_65) (og_acons (og_iload_n (i := 1) (j := 1) (by rfl) (by rfl) d_OG_counts_68) (og_acons (og_iconst (by decide) d_OG_counts_69) (og_anil))))))) (by decide) ok_Reckoner_value (v_Reckoner_value (by decide)) og_w742 d_OG_counts_70) d_OG_counts_73) d_OG_counts_74)) (fun hx => og_scs (fun hx => og_sat (by simp at hx; subst hx; rfl) (og_sretl (og_i2l_ (og_callVi (og_acons (og_aload_n (i := 0) (t := 3) (j := 0) (by rfl) (by rfl) d_OG_counts_75) (og_acons (og_iload_n (i := 1) (j := 1) (by rfl) (by rfl) d_OG_counts_76) (og_anil))) (by decide) ok_OG_harmOf (v_OG_harmOf (by decide)) og_w780 d_OG_counts_77) d_OG_counts_80) d_OG_counts_81)) (fun hx => og_sat (og_lkn (by simp_all)) (og_sretl (og_ldc2 (x := (-1000000000000000)) (by decide) og_w737 d_OG_counts_82) d_OG_counts_85))))))) (fun h => by cases h)
abbrev og_c_Yard_lives : ByteArray := prog_12_method_6_code
abbrev og_y_Yard_lives : MethodName := ⟨"OpenGraves$Yard", "lives", "(I)Z"⟩
theorem v_Yard_lives {own : String} {idx dep : Nat} (h : 2 + 1 ≤ dep) : og_sV own idx og_y_Yard_lives og_c_Yard_lives 2 3 2 dep 12 1 := ⟨⟨11, og_sl_Yard, og_T_Yard, 13, rfl, by decide, rfl⟩, og_w789, og_w790, og_w3, og_w791, ⟨by decide +kernel, by decide +kernel, by decide +kernel⟩, h, by decide⟩
theorem d_Yard_lives_0 : decode og_c_Yard_lives 0 = .ok (.aload_n 0, 1) := by decide +kernel
theorem d_Yard_lives_1 : decode og_c_Yard_lives 1 = .ok (.iload_n 1, 1) := by decide +kernel
theorem d_Yard_lives_2 : decode og_c_Yard_lives 2 = .ok (.invokevirtual 58, 3) := by decide +kernel
theorem d_Yard_lives_5 : decode og_c_Yard_lives 5 = .ok (.ifCond .eq 17, 3) := by decide +kernel
theorem d_Yard_lives_8 : decode og_c_Yard_lives 8 = .ok (.aload_n 0, 1) := by decide +kernel
theorem d_Yard_lives_9 : decode og_c_Yard_lives 9 = .ok (.getfield 33, 3) := by decide +kernel
theorem d_Yard_lives_12 : decode og_c_Yard_lives 12 = .ok (.iload_n 1, 1) := by decide +kernel
theorem d_Yard_lives_13 : decode og_c_Yard_lives 13 = .ok (.iaload, 1) := by decide +kernel
theorem d_Yard_lives_14 : decode og_c_Yard_lives 14 = .ok (.iconst 1, 1) := by decide +kernel
theorem d_Yard_lives_15 : decode og_c_Yard_lives 15 = .ok (.if_icmp .ne 7, 3) := by decide +kernel
theorem d_Yard_lives_18 : decode og_c_Yard_lives 18 = .ok (.iconst 1, 1) := by decide +kernel
theorem d_Yard_lives_19 : decode og_c_Yard_lives 19 = .ok (.goto 4, 3) := by decide +kernel
theorem d_Yard_lives_22 : decode og_c_Yard_lives 22 = .ok (.iconst 0, 1) := by decide +kernel
theorem d_Yard_lives_23 : decode og_c_Yard_lives 23 = .ok (.ireturn, 1) := by decide +kernel
def m_Yard_lives : og_Dn := og_den [16, 0] 2 3 (og_retz (og_ec (og_and (og_cb (og_call m_Yard_isPerson [og_loc 0, og_loc 1])) (og_cc og_req (og_ald 8 (og_fix (fun i => i + 8) (og_loc 0)) (og_loc 1)) (og_k 1)))))
set_option maxRecDepth 20000 in
theorem ok_Yard_lives : og_MOK og_y_Yard_lives og_c_Yard_lives 2 3 2 [16, 0] m_Yard_lives := og_method (b := 0) (lt' := []) (by decide +kernel) (by decide) (by decide) (og_sretz (og_econd (b := 0) (og_cand (og_cbeq (tgt := 22) (og_callVz (og_acons (og_aload_n (i := 0) (t := 14) (j := 0) (by rfl) (by rfl) d_Yard_lives_0) (og_acons (og_iload_n (i := 1) (j := 1) (by rfl) (by rfl) d_Yard_lives_1) (og_anil))) (by decide) ok_Yard_isPerson (v_Yard_isPerson (by decide)) og_w792 d_Yard_lives_2) d_Yard_lives_5 (by decide)) (og_ccn og_n_eq (og_ine (tgt := 22) (og_iald (N := 8) (og_f_Yard_alive (og_aload_n (i := 0) (t := 14) (j := 0) (by rfl) (by rfl) d_Yard_lives_8) og_w92 d_Yard_lives_9) (by rfl) (og_iload_n (i := 1) (j := 1) (by rfl) (by rfl) d_Yard_lives_12) d_Yard_lives_13) (og_iconst (by decide) d_Yard_lives_14) d_Yard_lives_15 (by decide)))) d_Yard_lives_18 d_Yard_lives_19 (by decide) d_Yard_lives_22 (by rfl)) d_Yard_lives_23) (fun h => by cases h)
abbrev og_c_Yard_fits : ByteArray := prog_12_method_9_code
abbrev og_y_Yard_fits : MethodName := ⟨"OpenGraves$Yard", "fits", "(II)Z"⟩
theorem v_Yard_fits {own : String} {idx dep : Nat} (h : 1 + 1 ≤ dep) : og_sV own idx og_y_Yard_fits og_c_Yard_fits 3 3 1 dep 12 2 := ⟨⟨11, og_sl_Yard, og_T_Yard, 13, rfl, by decide, rfl⟩, og_w798, og_w799, og_w3, og_w800, ⟨by decide +kernel, by decide +kernel, by decide +kernel⟩, h, by decide⟩
theorem d_Yard_fits_0 : decode og_c_Yard_fits 0 = .ok (.aload_n 0, 1) := by decide +kernel
theorem d_Yard_fits_1 : decode og_c_Yard_fits 1 = .ok (.getfield 24, 3) := by decide +kernel
theorem d_Yard_fits_4 : decode og_c_Yard_fits 4 = .ok (.iload_n 1, 1) := by decide +kernel
theorem d_Yard_fits_5 : decode og_c_Yard_fits 5 = .ok (.iaload, 1) := by decide +kernel
theorem d_Yard_fits_6 : decode og_c_Yard_fits 6 = .ok (.aload_n 0, 1) := by decide +kernel
theorem d_Yard_fits_7 : decode og_c_Yard_fits 7 = .ok (.getfield 9, 3) := by decide +kernel
theorem d_Yard_fits_10 : decode og_c_Yard_fits 10 = .ok (.iload_n 2, 1) := by decide +kernel
theorem d_Yard_fits_11 : decode og_c_Yard_fits 11 = .ok (.iaload, 1) := by decide +kernel
theorem d_Yard_fits_12 : decode og_c_Yard_fits 12 = .ok (.if_icmp .gt 7, 3) := by decide +kernel
theorem d_Yard_fits_15 : decode og_c_Yard_fits 15 = .ok (.iconst 1, 1) := by decide +kernel
theorem d_Yard_fits_16 : decode og_c_Yard_fits 16 = .ok (.goto 4, 3) := by decide +kernel
theorem d_Yard_fits_19 : decode og_c_Yard_fits 19 = .ok (.iconst 0, 1) := by decide +kernel
theorem d_Yard_fits_20 : decode og_c_Yard_fits 20 = .ok (.ireturn, 1) := by decide +kernel
def m_Yard_fits : og_Dn := og_den [16, 0, 0] 3 3 (og_retz (og_ec (og_cc og_rle (og_ald 8 (og_fix (fun i => i + 5) (og_loc 0)) (og_loc 1)) (og_ald 6 (og_fix (fun i => i + 1) (og_loc 0)) (og_loc 2)))))
set_option maxRecDepth 20000 in
theorem ok_Yard_fits : og_MOK og_y_Yard_fits og_c_Yard_fits 3 3 1 [16, 0, 0] m_Yard_fits := og_method (b := 0) (lt' := []) (by decide +kernel) (by decide) (by decide) (og_sretz (og_econd (b := 0) (og_ccn og_n_le (og_igt (tgt := 19) (og_iald (N := 8) (og_f_Yard_tall (og_aload_n (i := 0) (t := 14) (j := 0) (by rfl) (by rfl) d_Yard_fits_0) og_w77 d_Yard_fits_1) (by rfl) (og_iload_n (i := 1) (j := 1) (by rfl) (by rfl) d_Yard_fits_4) d_Yard_fits_5) (og_iald (N := 6) (og_f_Yard_length (og_aload_n (i := 0) (t := 14) (j := 0) (by rfl) (by rfl) d_Yard_fits_6) og_w61 d_Yard_fits_7) (by rfl) (og_iload_n (i := 2) (j := 2) (by rfl) (by rfl) d_Yard_fits_10) d_Yard_fits_11) d_Yard_fits_12 (by decide))) d_Yard_fits_15 d_Yard_fits_16 (by decide) d_Yard_fits_19 (by rfl)) d_Yard_fits_20) (fun h => by cases h)
abbrev og_c_Yard_nextGrave : ByteArray := prog_12_method_14_code
abbrev og_y_Yard_nextGrave : MethodName := ⟨"OpenGraves$Yard", "nextGrave", "(I)I"⟩
theorem v_Yard_nextGrave {own : String} {idx dep : Nat} (h : 2 + 1 ≤ dep) : og_sV own idx og_y_Yard_nextGrave og_c_Yard_nextGrave 4 0 2 dep 12 1 := ⟨⟨11, og_sl_Yard, og_T_Yard, 13, rfl, by decide, rfl⟩, og_w794, og_w795, og_w3, og_w796, ⟨by decide +kernel, by decide +kernel, by decide +kernel⟩, h, by decide⟩
theorem d_Yard_nextGrave_0 : decode og_c_Yard_nextGrave 0 = .ok (.iconst (-1), 1) := by decide +kernel
theorem d_Yard_nextGrave_1 : decode og_c_Yard_nextGrave 1 = .ok (.istore_n 2, 1) := by decide +kernel
theorem d_Yard_nextGrave_2 : decode og_c_Yard_nextGrave 2 = .ok (.iconst 0, 1) := by decide +kernel
theorem d_Yard_nextGrave_3 : decode og_c_Yard_nextGrave 3 = .ok (.istore_n 3, 1) := by decide +kernel
theorem d_Yard_nextGrave_4 : decode og_c_Yard_nextGrave 4 = .ok (.iload_n 3, 1) := by decide +kernel
theorem d_Yard_nextGrave_5 : decode og_c_Yard_nextGrave 5 = .ok (.aload_n 0, 1) := by decide +kernel
theorem d_Yard_nextGrave_6 : decode og_c_Yard_nextGrave 6 = .ok (.getfield 39, 3) := by decide +kernel
theorem d_Yard_nextGrave_9 : decode og_c_Yard_nextGrave 9 = .ok (.if_icmp .ge 48, 3) := by decide +kernel
theorem d_Yard_nextGrave_12 : decode og_c_Yard_nextGrave 12 = .ok (.aload_n 0, 1) := by decide +kernel
theorem d_Yard_nextGrave_13 : decode og_c_Yard_nextGrave 13 = .ok (.iload_n 3, 1) := by decide +kernel
theorem d_Yard_nextGrave_14 : decode og_c_Yard_nextGrave 14 = .ok (.invokevirtual 62, 3) := by decide +kernel
theorem d_Yard_nextGrave_17 : decode og_c_Yard_nextGrave 17 = .ok (.ifCond .eq 34, 3) := by decide +kernel
theorem d_Yard_nextGrave_20 : decode og_c_Yard_nextGrave 20 = .ok (.aload_n 0, 1) := by decide +kernel
theorem d_Yard_nextGrave_21 : decode og_c_Yard_nextGrave 21 = .ok (.iload_n 1, 1) := by decide +kernel
theorem d_Yard_nextGrave_22 : decode og_c_Yard_nextGrave 22 = .ok (.iload_n 3, 1) := by decide +kernel
theorem d_Yard_nextGrave_23 : decode og_c_Yard_nextGrave 23 = .ok (.invokevirtual 68, 3) := by decide +kernel
theorem d_Yard_nextGrave_26 : decode og_c_Yard_nextGrave 26 = .ok (.ifCond .eq 25, 3) := by decide +kernel
theorem d_Yard_nextGrave_29 : decode og_c_Yard_nextGrave 29 = .ok (.iload_n 2, 1) := by decide +kernel
theorem d_Yard_nextGrave_30 : decode og_c_Yard_nextGrave 30 = .ok (.iconst (-1), 1) := by decide +kernel
theorem d_Yard_nextGrave_31 : decode og_c_Yard_nextGrave 31 = .ok (.if_icmp .eq 18, 3) := by decide +kernel
theorem d_Yard_nextGrave_34 : decode og_c_Yard_nextGrave 34 = .ok (.aload_n 0, 1) := by decide +kernel
theorem d_Yard_nextGrave_35 : decode og_c_Yard_nextGrave 35 = .ok (.getfield 18, 3) := by decide +kernel
theorem d_Yard_nextGrave_38 : decode og_c_Yard_nextGrave 38 = .ok (.iload_n 3, 1) := by decide +kernel
theorem d_Yard_nextGrave_39 : decode og_c_Yard_nextGrave 39 = .ok (.iaload, 1) := by decide +kernel
theorem d_Yard_nextGrave_40 : decode og_c_Yard_nextGrave 40 = .ok (.aload_n 0, 1) := by decide +kernel
theorem d_Yard_nextGrave_41 : decode og_c_Yard_nextGrave 41 = .ok (.getfield 18, 3) := by decide +kernel
theorem d_Yard_nextGrave_44 : decode og_c_Yard_nextGrave 44 = .ok (.iload_n 2, 1) := by decide +kernel
theorem d_Yard_nextGrave_45 : decode og_c_Yard_nextGrave 45 = .ok (.iaload, 1) := by decide +kernel
theorem d_Yard_nextGrave_46 : decode og_c_Yard_nextGrave 46 = .ok (.if_icmp .ge 5, 3) := by decide +kernel
theorem d_Yard_nextGrave_49 : decode og_c_Yard_nextGrave 49 = .ok (.iload_n 3, 1) := by decide +kernel
theorem d_Yard_nextGrave_50 : decode og_c_Yard_nextGrave 50 = .ok (.istore_n 2, 1) := by decide +kernel
theorem d_Yard_nextGrave_51 : decode og_c_Yard_nextGrave 51 = .ok (.iinc 3 1, 3) := by decide +kernel
theorem d_Yard_nextGrave_54 : decode og_c_Yard_nextGrave 54 = .ok (.goto (-50), 3) := by decide +kernel
theorem d_Yard_nextGrave_57 : decode og_c_Yard_nextGrave 57 = .ok (.iload_n 2, 1) := by decide +kernel
theorem d_Yard_nextGrave_58 : decode og_c_Yard_nextGrave 58 = .ok (.ireturn, 1) := by decide +kernel
def m_Yard_nextGrave : og_Dn := og_den [16, 0] 4 0 (og_seq (og_set 2 (og_k (-1))) (og_cut (og_seq (og_set 3 (og_k 0)) (og_while (og_cc og_rlt (og_loc 3) (og_get 0 (og_loc 0))) (og_if (og_and (og_and (og_cb (og_call m_Yard_asks [og_loc 0, og_loc 3])) (og_cb (og_call m_Yard_fits [og_loc 0, og_loc 1, og_loc 3]))) (og_or (og_cc og_req (og_loc 2) (og_k (-1))) (og_cc og_rlt (og_ald 6 (og_fix (fun i => i + 3) (og_loc 0)) (og_loc 3)) (og_ald 6 (og_fix (fun i => i + 3) (og_loc 0)) (og_loc 2))))) (og_set 2 (og_loc 3)) (og_skip)) (og_inc 3 1))) (og_ret (og_loc 2))))
set_option maxRecDepth 20000 in
theorem ok_Yard_nextGrave : og_MOK og_y_Yard_nextGrave og_c_Yard_nextGrave 4 0 2 [16, 0] m_Yard_nextGrave := og_method (b := 0) (lt' := []) (by decide +kernel) (by decide) (by decide) (og_sseq (og_istore_n (i := 2) (lt' := [(0, 16), (1, 0), (2, 0)]) (og_iconst (by decide) d_Yard_nextGrave_0) (by rfl) (by decide) (by decide) d_Yard_nextGrave_1) (og_scut (og_sdrop (lt' := [(0, 16), (1, 0), (2, 0), (3, 0)]) (lt2 := [(0, 16), (1, 0), (2, 0)]) (og_sseq (og_istore_n (i := 3) (lt' := [(0, 16), (1, 0), (2, 0), (3, 0)]) (og_iconst (by decide) d_Yard_nextGrave_2) (by rfl) (by decide) (by decide) d_Yard_nextGrave_3) (og_swhile (T := 12) (F := 57) (cp0 := 51) (og_ccn og_n_lt (og_ige (tgt := 57) (og_iload_n (i := 3) (j := 3) (by rfl) (by rfl) d_Yard_nextGrave_4) (og_f_Yard_graves (og_aload_n (i := 0) (t := 14) (j := 0) (by rfl) (by rfl) d_Yard_nextGrave_5) og_w41 d_Yard_nextGrave_6) d_Yard_nextGrave_9 (by decide))) (og_sif (T := 49) (F := 51) (og_cand (og_cand (og_cbeq (tgt := 51) (og_callVz (og_acons (og_aload_n (i := 0) (t := 14) (j := 0) (by rfl) (by rfl) d_Yard_nextGrave_12) (og_acons (og_iload_n (i := 3) (j := 3) (by rfl) (by rfl) d_Yard_nextGrave_13) (og_anil))) (by decide) ok_Yard_asks (v_Yard_asks (by decide)) og_w696 d_Yard_nextGrave_14) d_Yard_nextGrave_17 (by decide)) (og_cbeq (tgt := 51) (og_callVz (og_acons (og_aload_n (i := 0) (t := 14) (j := 0) (by rfl) (by rfl) d_Yard_nextGrave_20) (og_acons (og_iload_n (i := 1) (j := 1) (by rfl) (by rfl) d_Yard_nextGrave_21) (og_acons (og_iload_n (i := 3) (j := 3) (by rfl) (by rfl) d_Yard_nextGrave_22) (og_anil)))) (by decide) ok_Yard_fits (v_Yard_fits (by decide)) og_w797 d_Yard_nextGrave_23) d_Yard_nextGrave_26 (by decide))) (og_cor (og_ieq (tgt := 49) (og_iload_n (i := 2) (j := 2) (by rfl) (by rfl) d_Yard_nextGrave_29) (og_iconst (by decide) d_Yard_nextGrave_30) d_Yard_nextGrave_31 (by decide)) (og_ccn og_n_lt (og_ige (tgt := 51) (og_iald (N := 6) (og_f_Yard_due (og_aload_n (i := 0) (t := 14) (j := 0) (by rfl) (by rfl) d_Yard_nextGrave_34) og_w69 d_Yard_nextGrave_35) (by rfl) (og_iload_n (i := 3) (j := 3) (by rfl) (by rfl) d_Yard_nextGrave_38) d_Yard_nextGrave_39) (og_iald (N := 6) (og_f_Yard_due (og_aload_n (i := 0) (t := 14) (j := 0) (by rfl) (by rfl) d_Yard_nextGrave_40) og_w69 d_Yard_nextGrave_41) (by rfl) (og_iload_n (i := 2) (j := 2) (by rfl) (by rfl) d_Yard_nextGrave_44) d_Yard_nextGrave_45) d_Yard_nextGrave_46 (by decide))))) (og_istore_n (i := 2) (lt' := [(0, 16), (1, 0), (2, 0), (3, 0)]) (og_iload_n (i := 3) (j := 3) (by rfl) (by rfl) d_Yard_nextGrave_49) (by rfl) (by decide) (by decide) d_Yard_nextGrave_50) (og_sskip)) (og_gS (b' := 4) (og_iinc (j := 3) (lt' := [(0, 16), (1, 0), (2, 0), (3, 0)]) (by rfl) (by decide) (by decide) d_Yard_nextGrave_51) d_Yard_nextGrave_54 (by decide)))) (by decide)) (og_sreti (og_iload_n (i := 2) (j := 2) (by rfl) (by rfl) d_Yard_nextGrave_57) d_Yard_nextGrave_58))) (fun h => by cases h)
abbrev og_c_OG_next : ByteArray := prog_1_method_11_code
abbrev og_y_OG_next : MethodName := ⟨"OpenGraves", "next", "(I)I"⟩
theorem v_OG_next {own : String} {idx dep : Nat} (h : 3 + 1 ≤ dep) : og_sV own idx og_y_OG_next og_c_OG_next 2 0 3 dep 1 1 := ⟨⟨0, og_sl_OG, og_T_OG, 17, rfl, by decide, rfl⟩, og_w785, og_w786, og_w1, og_w787, ⟨by decide +kernel, by decide +kernel, by decide +kernel⟩, h, by decide⟩
theorem d_OG_next_0 : decode og_c_OG_next 0 = .ok (.aload_n 0, 1) := by decide +kernel
theorem d_OG_next_1 : decode og_c_OG_next 1 = .ok (.getfield 90, 3) := by decide +kernel
theorem d_OG_next_4 : decode og_c_OG_next 4 = .ok (.iload_n 1, 1) := by decide +kernel
theorem d_OG_next_5 : decode og_c_OG_next 5 = .ok (.invokevirtual 217, 3) := by decide +kernel
theorem d_OG_next_8 : decode og_c_OG_next 8 = .ok (.ifCond .eq 14, 3) := by decide +kernel
theorem d_OG_next_11 : decode og_c_OG_next 11 = .ok (.aload_n 0, 1) := by decide +kernel
theorem d_OG_next_12 : decode og_c_OG_next 12 = .ok (.getfield 90, 3) := by decide +kernel
theorem d_OG_next_15 : decode og_c_OG_next 15 = .ok (.iload_n 1, 1) := by decide +kernel
theorem d_OG_next_16 : decode og_c_OG_next 16 = .ok (.invokevirtual 220, 3) := by decide +kernel
theorem d_OG_next_19 : decode og_c_OG_next 19 = .ok (.goto 4, 3) := by decide +kernel
theorem d_OG_next_22 : decode og_c_OG_next 22 = .ok (.iconst (-1), 1) := by decide +kernel
theorem d_OG_next_23 : decode og_c_OG_next 23 = .ok (.ireturn, 1) := by decide +kernel
def m_OG_next : og_Dn := og_den [5, 0] 2 0 (og_ret (og_ei (og_cb (og_call m_Yard_lives [og_fix (fun _ => 100) (og_loc 0), og_loc 1])) (og_call m_Yard_nextGrave [og_fix (fun _ => 100) (og_loc 0), og_loc 1]) (og_k (-1))))
set_option maxRecDepth 20000 in
theorem ok_OG_next : og_MOK og_y_OG_next og_c_OG_next 2 0 3 [5, 0] m_OG_next := og_method (b := 0) (lt' := []) (by decide +kernel) (by decide) (by decide) (og_sreti (og_eite (og_cbeq (tgt := 22) (og_callVz (og_acons (og_f_OG_now (og_aload_n (i := 0) (t := 3) (j := 0) (by rfl) (by rfl) d_OG_next_0) og_w397 d_OG_next_1) (og_acons (og_iload_n (i := 1) (j := 1) (by rfl) (by rfl) d_OG_next_4) (og_anil))) (by decide) ok_Yard_lives (v_Yard_lives (by decide)) og_w788 d_OG_next_5) d_OG_next_8 (by decide)) (og_callVi (og_acons (og_f_OG_now (og_aload_n (i := 0) (t := 3) (j := 0) (by rfl) (by rfl) d_OG_next_11) og_w397 d_OG_next_12) (og_acons (og_iload_n (i := 1) (j := 1) (by rfl) (by rfl) d_OG_next_15) (og_anil))) (by decide) ok_Yard_nextGrave (v_Yard_nextGrave (by decide)) og_w793 d_OG_next_16) d_OG_next_19 (by decide) (og_iconst (by decide) d_OG_next_22)) d_OG_next_23) (fun h => by cases h)
abbrev og_c_Yard_keptCell : ByteArray := prog_12_method_16_code
abbrev og_y_Yard_keptCell : MethodName := ⟨"OpenGraves$Yard", "keptCell", "(II)I"⟩
theorem v_Yard_keptCell {own : String} {idx dep : Nat} (h : 1 + 1 ≤ dep) : og_sV own idx og_y_Yard_keptCell og_c_Yard_keptCell 4 0 1 dep 12 2 := ⟨⟨11, og_sl_Yard, og_T_Yard, 13, rfl, by decide, rfl⟩, og_w806, og_w807, og_w3, og_w808, ⟨by decide +kernel, by decide +kernel, by decide +kernel⟩, h, by decide⟩
theorem d_Yard_keptCell_0 : decode og_c_Yard_keptCell 0 = .ok (.iconst 4, 1) := by decide +kernel
theorem d_Yard_keptCell_1 : decode og_c_Yard_keptCell 1 = .ok (.iload_n 1, 1) := by decide +kernel
theorem d_Yard_keptCell_2 : decode og_c_Yard_keptCell 2 = .ok (.imul, 1) := by decide +kernel
theorem d_Yard_keptCell_3 : decode og_c_Yard_keptCell 3 = .ok (.iload_n 2, 1) := by decide +kernel
theorem d_Yard_keptCell_4 : decode og_c_Yard_keptCell 4 = .ok (.iadd, 1) := by decide +kernel
theorem d_Yard_keptCell_5 : decode og_c_Yard_keptCell 5 = .ok (.istore_n 3, 1) := by decide +kernel
theorem d_Yard_keptCell_6 : decode og_c_Yard_keptCell 6 = .ok (.iload_n 3, 1) := by decide +kernel
theorem d_Yard_keptCell_7 : decode og_c_Yard_keptCell 7 = .ok (.ifCond .lt 21, 3) := by decide +kernel
theorem d_Yard_keptCell_10 : decode og_c_Yard_keptCell 10 = .ok (.iload_n 3, 1) := by decide +kernel
theorem d_Yard_keptCell_11 : decode og_c_Yard_keptCell 11 = .ok (.aload_n 0, 1) := by decide +kernel
theorem d_Yard_keptCell_12 : decode og_c_Yard_keptCell 12 = .ok (.getfield 36, 3) := by decide +kernel
theorem d_Yard_keptCell_15 : decode og_c_Yard_keptCell 15 = .ok (.arraylength, 1) := by decide +kernel
theorem d_Yard_keptCell_16 : decode og_c_Yard_keptCell 16 = .ok (.if_icmp .ge 12, 3) := by decide +kernel
theorem d_Yard_keptCell_19 : decode og_c_Yard_keptCell 19 = .ok (.aload_n 0, 1) := by decide +kernel
theorem d_Yard_keptCell_20 : decode og_c_Yard_keptCell 20 = .ok (.getfield 36, 3) := by decide +kernel
theorem d_Yard_keptCell_23 : decode og_c_Yard_keptCell 23 = .ok (.iload_n 3, 1) := by decide +kernel
theorem d_Yard_keptCell_24 : decode og_c_Yard_keptCell 24 = .ok (.iaload, 1) := by decide +kernel
theorem d_Yard_keptCell_25 : decode og_c_Yard_keptCell 25 = .ok (.goto 4, 3) := by decide +kernel
theorem d_Yard_keptCell_28 : decode og_c_Yard_keptCell 28 = .ok (.iconst (-1), 1) := by decide +kernel
theorem d_Yard_keptCell_29 : decode og_c_Yard_keptCell 29 = .ok (.ireturn, 1) := by decide +kernel
def m_Yard_keptCell : og_Dn := og_den [16, 0, 0] 4 0 (og_seq (og_set 3 (og_add (og_mul (og_k 4) (og_loc 1)) (og_loc 2))) (og_ret (og_ei (og_and (og_cc og_rge (og_loc 3) (og_k 0)) (og_cc og_rlt (og_loc 3) (og_len 32 (og_fix (fun i => i + 9) (og_loc 0))))) (og_ald 32 (og_fix (fun i => i + 9) (og_loc 0)) (og_loc 3)) (og_k (-1)))))
set_option maxRecDepth 20000 in
theorem ok_Yard_keptCell : og_MOK og_y_Yard_keptCell og_c_Yard_keptCell 4 0 1 [16, 0, 0] m_Yard_keptCell := og_method (b := 0) (lt' := []) (by decide +kernel) (by decide) (by decide) (og_sseq (og_istore_n (i := 3) (lt' := [(0, 16), (1, 0), (2, 0), (3, 0)]) (og_iadd (og_imul (og_iconst (by decide) d_Yard_keptCell_0) (og_iload_n (i := 1) (j := 1) (by rfl) (by rfl) d_Yard_keptCell_1) d_Yard_keptCell_2) (og_iload_n (i := 2) (j := 2) (by rfl) (by rfl) d_Yard_keptCell_3) d_Yard_keptCell_4) (by rfl) (by decide) (by decide) d_Yard_keptCell_5) (og_sreti (og_eite (og_cand (og_ccn og_n_ge (og_zlt (tgt := 28) (og_iload_n (i := 3) (j := 3) (by rfl) (by rfl) d_Yard_keptCell_6) d_Yard_keptCell_7 (by decide))) (og_ccn og_n_lt (og_ige (tgt := 28) (og_iload_n (i := 3) (j := 3) (by rfl) (by rfl) d_Yard_keptCell_10) (og_alen (N := 32) (et := 0) (og_f_Yard_kept (og_aload_n (i := 0) (t := 14) (j := 0) (by rfl) (by rfl) d_Yard_keptCell_11) og_w96 d_Yard_keptCell_12) (by rfl) (by decide) d_Yard_keptCell_15) d_Yard_keptCell_16 (by decide)))) (og_iald (N := 32) (og_f_Yard_kept (og_aload_n (i := 0) (t := 14) (j := 0) (by rfl) (by rfl) d_Yard_keptCell_19) og_w96 d_Yard_keptCell_20) (by rfl) (og_iload_n (i := 3) (j := 3) (by rfl) (by rfl) d_Yard_keptCell_23) d_Yard_keptCell_24) d_Yard_keptCell_25 (by decide) (og_iconst (by decide) d_Yard_keptCell_28)) d_Yard_keptCell_29)) (fun h => by cases h)
abbrev og_c_OG_kept : ByteArray := prog_1_method_12_code
abbrev og_y_OG_kept : MethodName := ⟨"OpenGraves", "kept", "(II)I"⟩
theorem v_OG_kept {own : String} {idx dep : Nat} (h : 2 + 1 ≤ dep) : og_sV own idx og_y_OG_kept og_c_OG_kept 3 0 2 dep 1 2 := ⟨⟨0, og_sl_OG, og_T_OG, 17, rfl, by decide, rfl⟩, og_w802, og_w803, og_w1, og_w804, ⟨by decide +kernel, by decide +kernel, by decide +kernel⟩, h, by decide⟩
theorem d_OG_kept_0 : decode og_c_OG_kept 0 = .ok (.iload_n 1, 1) := by decide +kernel
theorem d_OG_kept_1 : decode og_c_OG_kept 1 = .ok (.ifCond .lt 23, 3) := by decide +kernel
theorem d_OG_kept_4 : decode og_c_OG_kept 4 = .ok (.iload_n 1, 1) := by decide +kernel
theorem d_OG_kept_5 : decode og_c_OG_kept 5 = .ok (.aload_n 0, 1) := by decide +kernel
theorem d_OG_kept_6 : decode og_c_OG_kept 6 = .ok (.getfield 90, 3) := by decide +kernel
theorem d_OG_kept_9 : decode og_c_OG_kept 9 = .ok (.getfield 161, 3) := by decide +kernel
theorem d_OG_kept_12 : decode og_c_OG_kept 12 = .ok (.if_icmp .ge 12, 3) := by decide +kernel
theorem d_OG_kept_15 : decode og_c_OG_kept 15 = .ok (.iload_n 2, 1) := by decide +kernel
theorem d_OG_kept_16 : decode og_c_OG_kept 16 = .ok (.ifCond .lt 8, 3) := by decide +kernel
theorem d_OG_kept_19 : decode og_c_OG_kept 19 = .ok (.iload_n 2, 1) := by decide +kernel
theorem d_OG_kept_20 : decode og_c_OG_kept 20 = .ok (.iconst 3, 1) := by decide +kernel
theorem d_OG_kept_21 : decode og_c_OG_kept 21 = .ok (.if_icmp .le 5, 3) := by decide +kernel
theorem d_OG_kept_24 : decode og_c_OG_kept 24 = .ok (.iconst (-1), 1) := by decide +kernel
theorem d_OG_kept_25 : decode og_c_OG_kept 25 = .ok (.ireturn, 1) := by decide +kernel
theorem d_OG_kept_26 : decode og_c_OG_kept 26 = .ok (.aload_n 0, 1) := by decide +kernel
theorem d_OG_kept_27 : decode og_c_OG_kept 27 = .ok (.getfield 90, 3) := by decide +kernel
theorem d_OG_kept_30 : decode og_c_OG_kept 30 = .ok (.iload_n 1, 1) := by decide +kernel
theorem d_OG_kept_31 : decode og_c_OG_kept 31 = .ok (.iload_n 2, 1) := by decide +kernel
theorem d_OG_kept_32 : decode og_c_OG_kept 32 = .ok (.invokevirtual 223, 3) := by decide +kernel
theorem d_OG_kept_35 : decode og_c_OG_kept 35 = .ok (.ireturn, 1) := by decide +kernel
def m_OG_kept : og_Dn := og_den [5, 0, 0] 3 0 (og_seq (og_if (og_or (og_or (og_or (og_cc og_rlt (og_loc 1) (og_k 0)) (og_cc og_rge (og_loc 1) (og_get 3 (og_fix (fun _ => 100) (og_loc 0))))) (og_cc og_rlt (og_loc 2) (og_k 0))) (og_cc og_rgt (og_loc 2) (og_k 3))) (og_ret (og_k (-1))) (og_skip)) (og_ret (og_call m_Yard_keptCell [og_fix (fun _ => 100) (og_loc 0), og_loc 1, og_loc 2])))
set_option maxRecDepth 20000 in
theorem ok_OG_kept : og_MOK og_y_OG_kept og_c_OG_kept 3 0 2 [5, 0, 0] m_OG_kept := og_method (b := 0) (lt' := []) (by decide +kernel) (by decide) (by decide) (og_sseq (og_sif (T := 24) (F := 26) (og_cor (og_cor (og_cor (og_zlt (tgt := 24) (og_iload_n (i := 1) (j := 1) (by rfl) (by rfl) d_OG_kept_0) d_OG_kept_1 (by decide)) (og_ige (tgt := 24) (og_iload_n (i := 1) (j := 1) (by rfl) (by rfl) d_OG_kept_4) (og_f_Yard_keptRows_N (og_f_OG_now (og_aload_n (i := 0) (t := 3) (j := 0) (by rfl) (by rfl) d_OG_kept_5) og_w397 d_OG_kept_6) og_w60 d_OG_kept_9) d_OG_kept_12 (by decide))) (og_zlt (tgt := 24) (og_iload_n (i := 2) (j := 2) (by rfl) (by rfl) d_OG_kept_15) d_OG_kept_16 (by decide))) (og_ccn og_n_gt (og_ile (tgt := 26) (og_iload_n (i := 2) (j := 2) (by rfl) (by rfl) d_OG_kept_19) (og_iconst (by decide) d_OG_kept_20) d_OG_kept_21 (by decide)))) (og_sreti (og_iconst (by decide) d_OG_kept_24) d_OG_kept_25) (og_sskip)) (og_sreti (og_callVi (og_acons (og_f_OG_now (og_aload_n (i := 0) (t := 3) (j := 0) (by rfl) (by rfl) d_OG_kept_26) og_w397 d_OG_kept_27) (og_acons (og_iload_n (i := 1) (j := 1) (by rfl) (by rfl) d_OG_kept_30) (og_acons (og_iload_n (i := 2) (j := 2) (by rfl) (by rfl) d_OG_kept_31) (og_anil)))) (by decide) ok_Yard_keptCell (v_Yard_keptCell (by decide)) og_w805 d_OG_kept_32) d_OG_kept_35)) (fun h => by cases h)
abbrev og_c_OG_comesAhead : ByteArray := prog_1_method_40_code
abbrev og_y_OG_comesAhead : MethodName := ⟨"OpenGraves", "comesAhead", "(I)Z"⟩
theorem v_OG_comesAhead {own : String} {idx dep : Nat} (h : 1 + 1 ≤ dep) : og_sV own idx og_y_OG_comesAhead og_c_OG_comesAhead 2 3 1 dep 1 1 := ⟨⟨0, og_sl_OG, og_T_OG, 17, rfl, by decide, rfl⟩, og_w815, (og_memP (⟨"OpenGraves", "comesAhead", "(I)Z"⟩, 17) (List.mem_of_getElem? (i := 26) (by decide +kernel))), og_w1, og_w816, ⟨by decide +kernel, by decide +kernel, by decide +kernel⟩, h, by decide⟩
theorem d_OG_comesAhead_0 : decode og_c_OG_comesAhead 0 = .ok (.iload_n 1, 1) := by decide +kernel
theorem d_OG_comesAhead_1 : decode og_c_OG_comesAhead 1 = .ok (.ifCond .lt 28, 3) := by decide +kernel
theorem d_OG_comesAhead_4 : decode og_c_OG_comesAhead 4 = .ok (.iload_n 1, 1) := by decide +kernel
theorem d_OG_comesAhead_5 : decode og_c_OG_comesAhead 5 = .ok (.bipush 60, 2) := by decide +kernel
theorem d_OG_comesAhead_7 : decode og_c_OG_comesAhead 7 = .ok (.if_icmp .gt 22, 3) := by decide +kernel
theorem d_OG_comesAhead_10 : decode og_c_OG_comesAhead 10 = .ok (.aload_n 0, 1) := by decide +kernel
theorem d_OG_comesAhead_11 : decode og_c_OG_comesAhead 11 = .ok (.getfield 90, 3) := by decide +kernel
theorem d_OG_comesAhead_14 : decode og_c_OG_comesAhead 14 = .ok (.getfield 148, 3) := by decide +kernel
theorem d_OG_comesAhead_17 : decode og_c_OG_comesAhead 17 = .ok (.iload_n 1, 1) := by decide +kernel
theorem d_OG_comesAhead_18 : decode og_c_OG_comesAhead 18 = .ok (.iadd, 1) := by decide +kernel
theorem d_OG_comesAhead_19 : decode og_c_OG_comesAhead 19 = .ok (.sipush 999, 3) := by decide +kernel
theorem d_OG_comesAhead_22 : decode og_c_OG_comesAhead 22 = .ok (.if_icmp .gt 7, 3) := by decide +kernel
theorem d_OG_comesAhead_25 : decode og_c_OG_comesAhead 25 = .ok (.iconst 1, 1) := by decide +kernel
theorem d_OG_comesAhead_26 : decode og_c_OG_comesAhead 26 = .ok (.goto 4, 3) := by decide +kernel
theorem d_OG_comesAhead_29 : decode og_c_OG_comesAhead 29 = .ok (.iconst 0, 1) := by decide +kernel
theorem d_OG_comesAhead_30 : decode og_c_OG_comesAhead 30 = .ok (.ireturn, 1) := by decide +kernel
def m_OG_comesAhead : og_Dn := og_den [5, 0] 2 3 (og_retz (og_ec (og_and (og_and (og_cc og_rge (og_loc 1) (og_k 0)) (og_cc og_rle (og_loc 1) (og_k 60))) (og_cc og_rle (og_add (og_get 2 (og_fix (fun _ => 100) (og_loc 0))) (og_loc 1)) (og_k 999)))))
set_option maxRecDepth 20000 in
theorem ok_OG_comesAhead : og_MOK og_y_OG_comesAhead og_c_OG_comesAhead 2 3 1 [5, 0] m_OG_comesAhead := og_method (b := 0) (lt' := []) (by decide +kernel) (by decide) (by decide) (og_sretz (og_econd (b := 0) (og_cand (og_cand (og_ccn og_n_ge (og_zlt (tgt := 29) (og_iload_n (i := 1) (j := 1) (by rfl) (by rfl) d_OG_comesAhead_0) d_OG_comesAhead_1 (by decide))) (og_ccn og_n_le (og_igt (tgt := 29) (og_iload_n (i := 1) (j := 1) (by rfl) (by rfl) d_OG_comesAhead_4) (og_bipush (by decide) d_OG_comesAhead_5) d_OG_comesAhead_7 (by decide)))) (og_ccn og_n_le (og_igt (tgt := 29) (og_iadd (og_f_Yard_month_N (og_f_OG_now (og_aload_n (i := 0) (t := 3) (j := 0) (by rfl) (by rfl) d_OG_comesAhead_10) og_w397 d_OG_comesAhead_11) og_w58 d_OG_comesAhead_14) (og_iload_n (i := 1) (j := 1) (by rfl) (by rfl) d_OG_comesAhead_17) d_OG_comesAhead_18) (og_sipush (by decide) d_OG_comesAhead_19) d_OG_comesAhead_22 (by decide)))) d_OG_comesAhead_25 d_OG_comesAhead_26 (by decide) d_OG_comesAhead_29 (by rfl)) d_OG_comesAhead_30) (fun h => by cases h)
abbrev og_c_Yard_bury : ByteArray := prog_12_method_15_code
abbrev og_y_Yard_bury : MethodName := ⟨"OpenGraves$Yard", "bury", "(III)V"⟩
theorem v_Yard_bury {own : String} {idx dep : Nat} (h : 2 + 1 ≤ dep) : og_sV own idx og_y_Yard_bury og_c_Yard_bury 5 2 2 dep 12 3 := ⟨⟨11, og_sl_Yard, og_T_Yard, 13, rfl, by decide, rfl⟩, og_w840, og_w841, og_w3, og_w842, ⟨by decide +kernel, by decide +kernel, by decide +kernel⟩, h, by decide⟩
theorem d_Yard_bury_0 : decode og_c_Yard_bury 0 = .ok (.aload_n 0, 1) := by decide +kernel
theorem d_Yard_bury_1 : decode og_c_Yard_bury 1 = .ok (.getfield 33, 3) := by decide +kernel
theorem d_Yard_bury_4 : decode og_c_Yard_bury 4 = .ok (.iload_n 1, 1) := by decide +kernel
theorem d_Yard_bury_5 : decode og_c_Yard_bury 5 = .ok (.iconst 0, 1) := by decide +kernel
theorem d_Yard_bury_6 : decode og_c_Yard_bury 6 = .ok (.iastore, 1) := by decide +kernel
theorem d_Yard_bury_7 : decode og_c_Yard_bury 7 = .ok (.aload_n 0, 1) := by decide +kernel
theorem d_Yard_bury_8 : decode og_c_Yard_bury 8 = .ok (.iload_n 2, 1) := by decide +kernel
theorem d_Yard_bury_9 : decode og_c_Yard_bury 9 = .ok (.invokevirtual 72, 3) := by decide +kernel
theorem d_Yard_bury_12 : decode og_c_Yard_bury 12 = .ok (.ifCond .eq 10, 3) := by decide +kernel
theorem d_Yard_bury_15 : decode og_c_Yard_bury 15 = .ok (.aload_n 0, 1) := by decide +kernel
theorem d_Yard_bury_16 : decode og_c_Yard_bury 16 = .ok (.getfield 21, 3) := by decide +kernel
theorem d_Yard_bury_19 : decode og_c_Yard_bury 19 = .ok (.iload_n 2, 1) := by decide +kernel
theorem d_Yard_bury_20 : decode og_c_Yard_bury 20 = .ok (.iload_n 1, 1) := by decide +kernel
theorem d_Yard_bury_21 : decode og_c_Yard_bury 21 = .ok (.iastore, 1) := by decide +kernel
theorem d_Yard_bury_22 : decode og_c_Yard_bury 22 = .ok (.aload_n 0, 1) := by decide +kernel
theorem d_Yard_bury_23 : decode og_c_Yard_bury 23 = .ok (.getfield 49, 3) := by decide +kernel
theorem d_Yard_bury_26 : decode og_c_Yard_bury 26 = .ok (.bipush 8, 2) := by decide +kernel
theorem d_Yard_bury_28 : decode og_c_Yard_bury 28 = .ok (.if_icmp .ge 62, 3) := by decide +kernel
theorem d_Yard_bury_31 : decode og_c_Yard_bury 31 = .ok (.iconst 4, 1) := by decide +kernel
theorem d_Yard_bury_32 : decode og_c_Yard_bury 32 = .ok (.aload_n 0, 1) := by decide +kernel
theorem d_Yard_bury_33 : decode og_c_Yard_bury 33 = .ok (.getfield 49, 3) := by decide +kernel
theorem d_Yard_bury_36 : decode og_c_Yard_bury 36 = .ok (.imul, 1) := by decide +kernel
theorem d_Yard_bury_37 : decode og_c_Yard_bury 37 = .ok (.istore 4, 2) := by decide +kernel
theorem d_Yard_bury_39 : decode og_c_Yard_bury 39 = .ok (.aload_n 0, 1) := by decide +kernel
theorem d_Yard_bury_40 : decode og_c_Yard_bury 40 = .ok (.getfield 36, 3) := by decide +kernel
theorem d_Yard_bury_43 : decode og_c_Yard_bury 43 = .ok (.iload 4, 2) := by decide +kernel
theorem d_Yard_bury_45 : decode og_c_Yard_bury 45 = .ok (.aload_n 0, 1) := by decide +kernel
theorem d_Yard_bury_46 : decode og_c_Yard_bury 46 = .ok (.getfield 46, 3) := by decide +kernel
theorem d_Yard_bury_49 : decode og_c_Yard_bury 49 = .ok (.iastore, 1) := by decide +kernel
theorem d_Yard_bury_50 : decode og_c_Yard_bury 50 = .ok (.aload_n 0, 1) := by decide +kernel
theorem d_Yard_bury_51 : decode og_c_Yard_bury 51 = .ok (.getfield 36, 3) := by decide +kernel
theorem d_Yard_bury_54 : decode og_c_Yard_bury 54 = .ok (.iload 4, 2) := by decide +kernel
theorem d_Yard_bury_56 : decode og_c_Yard_bury 56 = .ok (.iconst 1, 1) := by decide +kernel
theorem d_Yard_bury_57 : decode og_c_Yard_bury 57 = .ok (.iadd, 1) := by decide +kernel
theorem d_Yard_bury_58 : decode og_c_Yard_bury 58 = .ok (.iload_n 1, 1) := by decide +kernel
theorem d_Yard_bury_59 : decode og_c_Yard_bury 59 = .ok (.iastore, 1) := by decide +kernel
theorem d_Yard_bury_60 : decode og_c_Yard_bury 60 = .ok (.aload_n 0, 1) := by decide +kernel
theorem d_Yard_bury_61 : decode og_c_Yard_bury 61 = .ok (.getfield 36, 3) := by decide +kernel
theorem d_Yard_bury_64 : decode og_c_Yard_bury 64 = .ok (.iload 4, 2) := by decide +kernel
theorem d_Yard_bury_66 : decode og_c_Yard_bury 66 = .ok (.iconst 2, 1) := by decide +kernel
theorem d_Yard_bury_67 : decode og_c_Yard_bury 67 = .ok (.iadd, 1) := by decide +kernel
theorem d_Yard_bury_68 : decode og_c_Yard_bury 68 = .ok (.iload_n 2, 1) := by decide +kernel
theorem d_Yard_bury_69 : decode og_c_Yard_bury 69 = .ok (.iastore, 1) := by decide +kernel
theorem d_Yard_bury_70 : decode og_c_Yard_bury 70 = .ok (.aload_n 0, 1) := by decide +kernel
theorem d_Yard_bury_71 : decode og_c_Yard_bury 71 = .ok (.getfield 36, 3) := by decide +kernel
theorem d_Yard_bury_74 : decode og_c_Yard_bury 74 = .ok (.iload 4, 2) := by decide +kernel
theorem d_Yard_bury_76 : decode og_c_Yard_bury 76 = .ok (.iconst 3, 1) := by decide +kernel
theorem d_Yard_bury_77 : decode og_c_Yard_bury 77 = .ok (.iadd, 1) := by decide +kernel
theorem d_Yard_bury_78 : decode og_c_Yard_bury 78 = .ok (.iload_n 3, 1) := by decide +kernel
theorem d_Yard_bury_79 : decode og_c_Yard_bury 79 = .ok (.iastore, 1) := by decide +kernel
theorem d_Yard_bury_80 : decode og_c_Yard_bury 80 = .ok (.aload_n 0, 1) := by decide +kernel
theorem d_Yard_bury_81 : decode og_c_Yard_bury 81 = .ok (.dup, 1) := by decide +kernel
theorem d_Yard_bury_82 : decode og_c_Yard_bury 82 = .ok (.getfield 49, 3) := by decide +kernel
theorem d_Yard_bury_85 : decode og_c_Yard_bury 85 = .ok (.iconst 1, 1) := by decide +kernel
theorem d_Yard_bury_86 : decode og_c_Yard_bury 86 = .ok (.iadd, 1) := by decide +kernel
theorem d_Yard_bury_87 : decode og_c_Yard_bury 87 = .ok (.putfield 49, 3) := by decide +kernel
theorem d_Yard_bury_90 : decode og_c_Yard_bury 90 = .ok (.return_, 1) := by decide +kernel
def m_Yard_bury : og_Dn := og_den [16, 0, 0, 0] 5 2 (og_seq (og_ast 8 (og_fix (fun i => i + 8) (og_loc 0)) (og_loc 1) (og_k 0)) (og_cut (og_if (og_cb (og_call m_Yard_isGrave [og_loc 0, og_loc 2])) (og_ast 6 (og_fix (fun i => i + 4) (og_loc 0)) (og_loc 2) (og_loc 1)) (og_skip)) (og_if (og_cc og_rlt (og_get 3 (og_loc 0)) (og_k 8)) (og_seq (og_set 4 (og_mul (og_k 4) (og_get 3 (og_loc 0)))) (og_seq (og_ast 32 (og_fix (fun i => i + 9) (og_loc 0)) (og_loc 4) (og_get 2 (og_loc 0))) (og_seq (og_ast 32 (og_fix (fun i => i + 9) (og_loc 0)) (og_add (og_loc 4) (og_k 1)) (og_loc 1)) (og_seq (og_ast 32 (og_fix (fun i => i + 9) (og_loc 0)) (og_add (og_loc 4) (og_k 2)) (og_loc 2)) (og_seq (og_ast 32 (og_fix (fun i => i + 9) (og_loc 0)) (og_add (og_loc 4) (og_k 3)) (og_loc 3)) (og_pop32 og_padd 3 (og_loc 0) (og_k 1))))))) (og_skip))))
set_option maxRecDepth 20000 in
theorem ok_Yard_bury : og_MOK og_y_Yard_bury og_c_Yard_bury 5 2 2 [16, 0, 0, 0] m_Yard_bury := og_method (b := 90) (lt' := [(0, 16), (1, 0), (2, 0), (3, 0)]) (by decide +kernel) (by decide) (by decide) (og_sseq (og_iastore (N := 8) (og_f_Yard_alive (og_aload_n (i := 0) (t := 14) (j := 0) (by rfl) (by rfl) d_Yard_bury_0) og_w92 d_Yard_bury_1) (by rfl) (og_iload_n (i := 1) (j := 1) (by rfl) (by rfl) d_Yard_bury_4) (og_iconst (by decide) d_Yard_bury_5) d_Yard_bury_6) (og_scut (og_sif (T := 15) (F := 22) (og_cbeq (tgt := 22) (og_callVz (og_acons (og_aload_n (i := 0) (t := 14) (j := 0) (by rfl) (by rfl) d_Yard_bury_7) (og_acons (og_iload_n (i := 2) (j := 2) (by rfl) (by rfl) d_Yard_bury_8) (og_anil))) (by decide) ok_Yard_isGrave (v_Yard_isGrave (by decide)) og_w843 d_Yard_bury_9) d_Yard_bury_12 (by decide)) (og_iastore (N := 6) (og_f_Yard_who (og_aload_n (i := 0) (t := 14) (j := 0) (by rfl) (by rfl) d_Yard_bury_15) og_w74 d_Yard_bury_16) (by rfl) (og_iload_n (i := 2) (j := 2) (by rfl) (by rfl) d_Yard_bury_19) (og_iload_n (i := 1) (j := 1) (by rfl) (by rfl) d_Yard_bury_20) d_Yard_bury_21) (og_sskip)) (og_sif (T := 31) (F := 90) (og_ccn og_n_lt (og_ige (tgt := 90) (og_f_Yard_keptRows (og_aload_n (i := 0) (t := 14) (j := 0) (by rfl) (by rfl) d_Yard_bury_22) og_w59 d_Yard_bury_23) (og_bipush (by decide) d_Yard_bury_26) d_Yard_bury_28 (by decide))) (og_sdrop (lt' := [(0, 16), (1, 0), (2, 0), (3, 0), (4, 0)]) (lt2 := [(0, 16), (1, 0), (2, 0), (3, 0)]) (og_sseq (og_istore (i := 4) (lt' := [(0, 16), (1, 0), (2, 0), (3, 0), (4, 0)]) (og_imul (og_iconst (by decide) d_Yard_bury_31) (og_f_Yard_keptRows (og_aload_n (i := 0) (t := 14) (j := 0) (by rfl) (by rfl) d_Yard_bury_32) og_w59 d_Yard_bury_33) d_Yard_bury_36) (by decide) (by decide) d_Yard_bury_37) (og_sseq (og_iastore (N := 32) (og_f_Yard_kept (og_aload_n (i := 0) (t := 14) (j := 0) (by rfl) (by rfl) d_Yard_bury_39) og_w96 d_Yard_bury_40) (by rfl) (og_iload (i := 4) (j := 4) (by rfl) d_Yard_bury_43) (og_f_Yard_month (og_aload_n (i := 0) (t := 14) (j := 0) (by rfl) (by rfl) d_Yard_bury_45) og_w54 d_Yard_bury_46) d_Yard_bury_49) (og_sseq (og_iastore (N := 32) (og_f_Yard_kept (og_aload_n (i := 0) (t := 14) (j := 0) (by rfl) (by rfl) d_Yard_bury_50) og_w96 d_Yard_bury_51) (by rfl) (og_iadd (og_iload (i := 4) (j := 4) (by rfl) d_Yard_bury_54) (og_iconst (by decide) d_Yard_bury_56) d_Yard_bury_57) (og_iload_n (i := 1) (j := 1) (by rfl) (by rfl) d_Yard_bury_58) d_Yard_bury_59) (og_sseq (og_iastore (N := 32) (og_f_Yard_kept (og_aload_n (i := 0) (t := 14) (j := 0) (by rfl) (by rfl) d_Yard_bury_60) og_w96 d_Yard_bury_61) (by rfl) (og_iadd (og_iload (i := 4) (j := 4) (by rfl) d_Yard_bury_64) (og_iconst (by decide) d_Yard_bury_66) d_Yard_bury_67) (og_iload_n (i := 2) (j := 2) (by rfl) (by rfl) d_Yard_bury_68) d_Yard_bury_69) (og_sseq (og_iastore (N := 32) (og_f_Yard_kept (og_aload_n (i := 0) (t := 14) (j := 0) (by rfl) (by rfl) d_Yard_bury_70) og_w96 d_Yard_bury_71) (by rfl) (og_iadd (og_iload (i := 4) (j := 4) (by rfl) d_Yard_bury_74) (og_iconst (by decide) d_Yard_bury_76) d_Yard_bury_77) (og_iload_n (i := 3) (j := 3) (by rfl) (by rfl) d_Yard_bury_78) d_Yard_bury_79) (og_qadd_Yard_keptRows (og_aload_n (i := 0) (t := 14) (j := 0) (by rfl) (by rfl) d_Yard_bury_80) d_Yard_bury_81 d_Yard_bury_82 (og_iconst (by decide) d_Yard_bury_85) d_Yard_bury_86 og_w59 d_Yard_bury_87)))))) (by decide)) (og_sskip)))) (fun _ => d_Yard_bury_90)
abbrev og_c_Almanac_comeForward : ByteArray := prog_2_method_3_code
abbrev og_y_Almanac_comeForward : MethodName := ⟨"OpenGraves$Almanac", "comeForward", "(LOpenGraves$Script;LOpenGraves$Yard;)V"⟩
theorem v_Almanac_comeForward {own : String} {idx dep : Nat} (h : 4 + 1 ≤ dep) : og_sV own idx og_y_Almanac_comeForward og_c_Almanac_comeForward 5 2 4 dep 6 2 := ⟨⟨5, og_sl_Almanac, og_T_Almanac, 2, rfl, by decide, rfl⟩, og_w833, (og_memP (⟨"OpenGraves$Almanac", "comeForward", "(LOpenGraves$Script;LOpenGraves$Yard;)V"⟩, 2) (List.mem_of_getElem? (i := 28) (by decide +kernel))), og_w13, og_w834, ⟨by decide +kernel, by decide +kernel, by decide +kernel⟩, h, by decide⟩
theorem d_Almanac_comeForward_0 : decode og_c_Almanac_comeForward 0 = .ok (.iconst 0, 1) := by decide +kernel
theorem d_Almanac_comeForward_1 : decode og_c_Almanac_comeForward 1 = .ok (.istore_n 3, 1) := by decide +kernel
theorem d_Almanac_comeForward_2 : decode og_c_Almanac_comeForward 2 = .ok (.iload_n 3, 1) := by decide +kernel
theorem d_Almanac_comeForward_3 : decode og_c_Almanac_comeForward 3 = .ok (.aload_n 2, 1) := by decide +kernel
theorem d_Almanac_comeForward_4 : decode og_c_Almanac_comeForward 4 = .ok (.getfield 54, 3) := by decide +kernel
theorem d_Almanac_comeForward_7 : decode og_c_Almanac_comeForward 7 = .ok (.if_icmp .ge 57, 3) := by decide +kernel
theorem d_Almanac_comeForward_10 : decode og_c_Almanac_comeForward 10 = .ok (.aload_n 2, 1) := by decide +kernel
theorem d_Almanac_comeForward_11 : decode og_c_Almanac_comeForward 11 = .ok (.iload_n 3, 1) := by decide +kernel
theorem d_Almanac_comeForward_12 : decode og_c_Almanac_comeForward 12 = .ok (.invokevirtual 57, 3) := by decide +kernel
theorem d_Almanac_comeForward_15 : decode og_c_Almanac_comeForward 15 = .ok (.ifCond .eq 43, 3) := by decide +kernel
theorem d_Almanac_comeForward_18 : decode og_c_Almanac_comeForward 18 = .ok (.aload_n 0, 1) := by decide +kernel
theorem d_Almanac_comeForward_19 : decode og_c_Almanac_comeForward 19 = .ok (.getfield 9, 3) := by decide +kernel
theorem d_Almanac_comeForward_22 : decode og_c_Almanac_comeForward 22 = .ok (.aload_n 1, 1) := by decide +kernel
theorem d_Almanac_comeForward_23 : decode og_c_Almanac_comeForward 23 = .ok (.bipush 9, 2) := by decide +kernel
theorem d_Almanac_comeForward_25 : decode og_c_Almanac_comeForward 25 = .ok (.aload_n 2, 1) := by decide +kernel
theorem d_Almanac_comeForward_26 : decode og_c_Almanac_comeForward 26 = .ok (.iload_n 3, 1) := by decide +kernel
theorem d_Almanac_comeForward_27 : decode og_c_Almanac_comeForward 27 = .ok (.aload_n 2, 1) := by decide +kernel
theorem d_Almanac_comeForward_28 : decode og_c_Almanac_comeForward 28 = .ok (.invokevirtual 61, 3) := by decide +kernel
theorem d_Almanac_comeForward_31 : decode og_c_Almanac_comeForward 31 = .ok (.invokevirtual 65, 3) := by decide +kernel
theorem d_Almanac_comeForward_34 : decode og_c_Almanac_comeForward 34 = .ok (.ifCond .eq 24, 3) := by decide +kernel
theorem d_Almanac_comeForward_37 : decode og_c_Almanac_comeForward 37 = .ok (.aload_n 2, 1) := by decide +kernel
theorem d_Almanac_comeForward_38 : decode og_c_Almanac_comeForward 38 = .ok (.iload_n 3, 1) := by decide +kernel
theorem d_Almanac_comeForward_39 : decode og_c_Almanac_comeForward 39 = .ok (.invokevirtual 71, 3) := by decide +kernel
theorem d_Almanac_comeForward_42 : decode og_c_Almanac_comeForward 42 = .ok (.istore 4, 2) := by decide +kernel
theorem d_Almanac_comeForward_44 : decode og_c_Almanac_comeForward 44 = .ok (.iload 4, 2) := by decide +kernel
theorem d_Almanac_comeForward_46 : decode og_c_Almanac_comeForward 46 = .ok (.iconst (-1), 1) := by decide +kernel
theorem d_Almanac_comeForward_47 : decode og_c_Almanac_comeForward 47 = .ok (.if_icmp .eq 11, 3) := by decide +kernel
theorem d_Almanac_comeForward_50 : decode og_c_Almanac_comeForward 50 = .ok (.aload_n 2, 1) := by decide +kernel
theorem d_Almanac_comeForward_51 : decode og_c_Almanac_comeForward 51 = .ok (.iload_n 3, 1) := by decide +kernel
theorem d_Almanac_comeForward_52 : decode og_c_Almanac_comeForward 52 = .ok (.iload 4, 2) := by decide +kernel
theorem d_Almanac_comeForward_54 : decode og_c_Almanac_comeForward 54 = .ok (.iconst 0, 1) := by decide +kernel
theorem d_Almanac_comeForward_55 : decode og_c_Almanac_comeForward 55 = .ok (.invokevirtual 75, 3) := by decide +kernel
theorem d_Almanac_comeForward_58 : decode og_c_Almanac_comeForward 58 = .ok (.iinc 3 1, 3) := by decide +kernel
theorem d_Almanac_comeForward_61 : decode og_c_Almanac_comeForward 61 = .ok (.goto (-59), 3) := by decide +kernel
theorem d_Almanac_comeForward_64 : decode og_c_Almanac_comeForward 64 = .ok (.return_, 1) := by decide +kernel
def m_Almanac_comeForward : og_Dn := og_den [10, 15, 16] 5 2 (og_seq (og_set 3 (og_k 0)) (og_while (og_cc og_rlt (og_loc 3) (og_get 1 (og_loc 2))) (og_if (og_and (og_cb (og_call m_Yard_lives [og_loc 2, og_loc 3])) (og_cc og_rne (og_call m_Reckoner_value [og_fix (fun _ => 6) (og_loc 0), og_loc 1, og_k 9, og_loc 2, og_loc 3, og_call m_Yard_countAsking [og_loc 2]]) (og_k 0))) (og_seq (og_set 4 (og_call m_Yard_nextGrave [og_loc 2, og_loc 3])) (og_if (og_cc og_rne (og_loc 4) (og_k (-1))) (og_exp (og_call m_Yard_bury [og_loc 2, og_loc 3, og_loc 4, og_k 0])) (og_skip))) (og_skip)) (og_inc 3 1)))
set_option maxRecDepth 20000 in
theorem ok_Almanac_comeForward : og_MOK og_y_Almanac_comeForward og_c_Almanac_comeForward 5 2 4 [10, 15, 16] m_Almanac_comeForward := og_method (b := 64) (lt' := [(0, 10), (1, 15), (2, 16)]) (by decide +kernel) (by decide) (by decide) (og_sdrop (lt' := [(0, 10), (1, 15), (2, 16), (3, 0)]) (lt2 := [(0, 10), (1, 15), (2, 16)]) (og_sseq (og_istore_n (i := 3) (lt' := [(0, 10), (1, 15), (2, 16), (3, 0)]) (og_iconst (by decide) d_Almanac_comeForward_0) (by rfl) (by decide) (by decide) d_Almanac_comeForward_1) (og_swhile (T := 10) (F := 64) (cp0 := 58) (og_ccn og_n_lt (og_ige (tgt := 64) (og_iload_n (i := 3) (j := 3) (by rfl) (by rfl) d_Almanac_comeForward_2) (og_f_Yard_people_N (og_aload_n (i := 2) (t := 14) (j := 2) (by rfl) (by rfl) d_Almanac_comeForward_3) og_w50 d_Almanac_comeForward_4) d_Almanac_comeForward_7 (by decide))) (og_sif (T := 37) (F := 58) (og_cand (og_cbeq (tgt := 58) (og_callVz (og_acons (og_aload_n (i := 2) (t := 14) (j := 2) (by rfl) (by rfl) d_Almanac_comeForward_10) (og_acons (og_iload_n (i := 3) (j := 3) (by rfl) (by rfl) d_Almanac_comeForward_11) (og_anil))) (by decide) ok_Yard_lives (v_Yard_lives (by decide)) og_w835 d_Almanac_comeForward_12) d_Almanac_comeForward_15 (by decide)) (og_ccn og_n_ne (og_zeq (tgt := 58) (og_callVi (og_acons (og_f_Almanac_reckoner (og_aload_n (i := 0) (t := 8) (j := 0) (by rfl) (by rfl) d_Almanac_comeForward_18) og_w302 d_Almanac_comeForward_19) (og_acons (og_aload_n (i := 1) (t := 13) (j := 1) (by rfl) (by rfl) d_Almanac_comeForward_22) (og_acons (og_bipush (by decide) d_Almanac_comeForward_23) (og_acons (og_aload_n (i := 2) (t := 14) (j := 2) (by rfl) (by rfl) d_Almanac_comeForward_25) (og_acons (og_iload_n (i := 3) (j := 3) (by rfl) (by rfl) d_Almanac_comeForward_26) (og_acons (og_callVi (og_acons (og_aload_n (i := 2) (t := 14) (j := 2) (by rfl) (by rfl) d_Almanac_comeForward_27) (og_anil)) (by decide) ok_Yard_countAsking (v_Yard_countAsking (by decide)) og_w836 d_Almanac_comeForward_28) (og_anil))))))) (by decide) ok_Reckoner_value (v_Reckoner_value (by decide)) og_w837 d_Almanac_comeForward_31) d_Almanac_comeForward_34 (by decide)))) (og_sdrop (lt' := [(0, 10), (1, 15), (2, 16), (3, 0), (4, 0)]) (lt2 := [(0, 10), (1, 15), (2, 16), (3, 0)]) (og_sseq (og_istore (i := 4) (lt' := [(0, 10), (1, 15), (2, 16), (3, 0), (4, 0)]) (og_callVi (og_acons (og_aload_n (i := 2) (t := 14) (j := 2) (by rfl) (by rfl) d_Almanac_comeForward_37) (og_acons (og_iload_n (i := 3) (j := 3) (by rfl) (by rfl) d_Almanac_comeForward_38) (og_anil))) (by decide) ok_Yard_nextGrave (v_Yard_nextGrave (by decide)) og_w838 d_Almanac_comeForward_39) (by decide) (by decide) d_Almanac_comeForward_42) (og_sif (T := 50) (F := 58) (og_ccn og_n_ne (og_ieq (tgt := 58) (og_iload (i := 4) (j := 4) (by rfl) d_Almanac_comeForward_44) (og_iconst (by decide) d_Almanac_comeForward_46) d_Almanac_comeForward_47 (by decide))) (og_callVv (og_acons (og_aload_n (i := 2) (t := 14) (j := 2) (by rfl) (by rfl) d_Almanac_comeForward_50) (og_acons (og_iload_n (i := 3) (j := 3) (by rfl) (by rfl) d_Almanac_comeForward_51) (og_acons (og_iload (i := 4) (j := 4) (by rfl) d_Almanac_comeForward_52) (og_acons (og_iconst (by decide) d_Almanac_comeForward_54) (og_anil))))) ok_Yard_bury (v_Yard_bury (by decide)) og_w839 d_Almanac_comeForward_55) (og_sskip))) (by decide)) (og_sskip)) (og_gS (b' := 2) (og_iinc (j := 3) (lt' := [(0, 10), (1, 15), (2, 16), (3, 0)]) (by rfl) (by decide) (by decide) d_Almanac_comeForward_58) d_Almanac_comeForward_61 (by decide)))) (by decide)) (fun _ => d_Almanac_comeForward_64)
abbrev og_c_Almanac_comeNearer : ByteArray := prog_2_method_4_code
abbrev og_y_Almanac_comeNearer : MethodName := ⟨"OpenGraves$Almanac", "comeNearer", "(LOpenGraves$Yard;)Z"⟩
theorem v_Almanac_comeNearer {dep : Nat} (h : 2 + 1 ≤ dep) : og_sS og_y_Almanac_comeNearer og_c_Almanac_comeNearer 3 3 2 dep 1 := ⟨og_w845, og_w13, og_w846, ⟨by decide +kernel, by decide +kernel, by decide +kernel⟩, h, by decide⟩
theorem d_Almanac_comeNearer_0 : decode og_c_Almanac_comeNearer 0 = .ok (.iconst 0, 1) := by decide +kernel
theorem d_Almanac_comeNearer_1 : decode og_c_Almanac_comeNearer 1 = .ok (.istore_n 1, 1) := by decide +kernel
theorem d_Almanac_comeNearer_2 : decode og_c_Almanac_comeNearer 2 = .ok (.iconst 0, 1) := by decide +kernel
theorem d_Almanac_comeNearer_3 : decode og_c_Almanac_comeNearer 3 = .ok (.istore_n 2, 1) := by decide +kernel
theorem d_Almanac_comeNearer_4 : decode og_c_Almanac_comeNearer 4 = .ok (.iload_n 2, 1) := by decide +kernel
theorem d_Almanac_comeNearer_5 : decode og_c_Almanac_comeNearer 5 = .ok (.aload_n 0, 1) := by decide +kernel
theorem d_Almanac_comeNearer_6 : decode og_c_Almanac_comeNearer 6 = .ok (.getfield 79, 3) := by decide +kernel
theorem d_Almanac_comeNearer_9 : decode og_c_Almanac_comeNearer 9 = .ok (.if_icmp .ge 54, 3) := by decide +kernel
theorem d_Almanac_comeNearer_12 : decode og_c_Almanac_comeNearer 12 = .ok (.aload_n 0, 1) := by decide +kernel
theorem d_Almanac_comeNearer_13 : decode og_c_Almanac_comeNearer 13 = .ok (.iload_n 2, 1) := by decide +kernel
theorem d_Almanac_comeNearer_14 : decode og_c_Almanac_comeNearer 14 = .ok (.invokevirtual 82, 3) := by decide +kernel
theorem d_Almanac_comeNearer_17 : decode og_c_Almanac_comeNearer 17 = .ok (.ifCond .eq 40, 3) := by decide +kernel
theorem d_Almanac_comeNearer_20 : decode og_c_Almanac_comeNearer 20 = .ok (.aload_n 0, 1) := by decide +kernel
theorem d_Almanac_comeNearer_21 : decode og_c_Almanac_comeNearer 21 = .ok (.getfield 85, 3) := by decide +kernel
theorem d_Almanac_comeNearer_24 : decode og_c_Almanac_comeNearer 24 = .ok (.iload_n 2, 1) := by decide +kernel
theorem d_Almanac_comeNearer_25 : decode og_c_Almanac_comeNearer 25 = .ok (.iconst 0, 1) := by decide +kernel
theorem d_Almanac_comeNearer_26 : decode og_c_Almanac_comeNearer 26 = .ok (.aload_n 0, 1) := by decide +kernel
theorem d_Almanac_comeNearer_27 : decode og_c_Almanac_comeNearer 27 = .ok (.getfield 85, 3) := by decide +kernel
theorem d_Almanac_comeNearer_30 : decode og_c_Almanac_comeNearer 30 = .ok (.iload_n 2, 1) := by decide +kernel
theorem d_Almanac_comeNearer_31 : decode og_c_Almanac_comeNearer 31 = .ok (.iaload, 1) := by decide +kernel
theorem d_Almanac_comeNearer_32 : decode og_c_Almanac_comeNearer 32 = .ok (.iconst 1, 1) := by decide +kernel
theorem d_Almanac_comeNearer_33 : decode og_c_Almanac_comeNearer 33 = .ok (.isub, 1) := by decide +kernel
theorem d_Almanac_comeNearer_34 : decode og_c_Almanac_comeNearer 34 = .ok (.invokestatic 88, 3) := by decide +kernel
theorem d_Almanac_comeNearer_37 : decode og_c_Almanac_comeNearer 37 = .ok (.iastore, 1) := by decide +kernel
theorem d_Almanac_comeNearer_38 : decode og_c_Almanac_comeNearer 38 = .ok (.iload_n 1, 1) := by decide +kernel
theorem d_Almanac_comeNearer_39 : decode og_c_Almanac_comeNearer 39 = .ok (.ifCond .ne 12, 3) := by decide +kernel
theorem d_Almanac_comeNearer_42 : decode og_c_Almanac_comeNearer 42 = .ok (.aload_n 0, 1) := by decide +kernel
theorem d_Almanac_comeNearer_43 : decode og_c_Almanac_comeNearer 43 = .ok (.getfield 85, 3) := by decide +kernel
theorem d_Almanac_comeNearer_46 : decode og_c_Almanac_comeNearer 46 = .ok (.iload_n 2, 1) := by decide +kernel
theorem d_Almanac_comeNearer_47 : decode og_c_Almanac_comeNearer 47 = .ok (.iaload, 1) := by decide +kernel
theorem d_Almanac_comeNearer_48 : decode og_c_Almanac_comeNearer 48 = .ok (.ifCond .ne 7, 3) := by decide +kernel
theorem d_Almanac_comeNearer_51 : decode og_c_Almanac_comeNearer 51 = .ok (.iconst 1, 1) := by decide +kernel
theorem d_Almanac_comeNearer_52 : decode og_c_Almanac_comeNearer 52 = .ok (.goto 4, 3) := by decide +kernel
theorem d_Almanac_comeNearer_55 : decode og_c_Almanac_comeNearer 55 = .ok (.iconst 0, 1) := by decide +kernel
theorem d_Almanac_comeNearer_56 : decode og_c_Almanac_comeNearer 56 = .ok (.istore_n 1, 1) := by decide +kernel
theorem d_Almanac_comeNearer_57 : decode og_c_Almanac_comeNearer 57 = .ok (.iinc 2 1, 3) := by decide +kernel
theorem d_Almanac_comeNearer_60 : decode og_c_Almanac_comeNearer 60 = .ok (.goto (-56), 3) := by decide +kernel
theorem d_Almanac_comeNearer_63 : decode og_c_Almanac_comeNearer 63 = .ok (.iload_n 1, 1) := by decide +kernel
theorem d_Almanac_comeNearer_64 : decode og_c_Almanac_comeNearer 64 = .ok (.ireturn, 1) := by decide +kernel
def m_Almanac_comeNearer : og_Dn := og_den [16] 3 3 (og_seq (og_set 1 (og_k 0)) (og_cut (og_seq (og_set 2 (og_k 0)) (og_while (og_cc og_rlt (og_loc 2) (og_get 0 (og_loc 0))) (og_if (og_cb (og_call m_Yard_asks [og_loc 0, og_loc 2])) (og_seq (og_ast 6 (og_fix (fun i => i + 3) (og_loc 0)) (og_loc 2) (og_max (og_k 0) (og_sub (og_ald 6 (og_fix (fun i => i + 3) (og_loc 0)) (og_loc 2)) (og_k 1)))) (og_set 1 (og_ec (og_or (og_cb (og_loc 1)) (og_cc og_req (og_ald 6 (og_fix (fun i => i + 3) (og_loc 0)) (og_loc 2)) (og_k 0)))))) (og_skip)) (og_inc 2 1))) (og_retz (og_loc 1))))
set_option maxRecDepth 20000 in
theorem ok_Almanac_comeNearer : og_MOK og_y_Almanac_comeNearer og_c_Almanac_comeNearer 3 3 2 [16] m_Almanac_comeNearer := og_method (b := 0) (lt' := []) (by decide +kernel) (by decide) (by decide) (og_sseq (og_istore_n (i := 1) (lt' := [(0, 16), (1, 0)]) (og_iconst (by decide) d_Almanac_comeNearer_0) (by rfl) (by decide) (by decide) d_Almanac_comeNearer_1) (og_scut (og_sdrop (lt' := [(0, 16), (1, 0), (2, 0)]) (lt2 := [(0, 16), (1, 0)]) (og_sseq (og_istore_n (i := 2) (lt' := [(0, 16), (1, 0), (2, 0)]) (og_iconst (by decide) d_Almanac_comeNearer_2) (by rfl) (by decide) (by decide) d_Almanac_comeNearer_3) (og_swhile (T := 12) (F := 63) (cp0 := 57) (og_ccn og_n_lt (og_ige (tgt := 63) (og_iload_n (i := 2) (j := 2) (by rfl) (by rfl) d_Almanac_comeNearer_4) (og_f_Yard_graves_N (og_aload_n (i := 0) (t := 14) (j := 0) (by rfl) (by rfl) d_Almanac_comeNearer_5) og_w43 d_Almanac_comeNearer_6) d_Almanac_comeNearer_9 (by decide))) (og_sif (T := 20) (F := 57) (og_cbeq (tgt := 57) (og_callVz (og_acons (og_aload_n (i := 0) (t := 14) (j := 0) (by rfl) (by rfl) d_Almanac_comeNearer_12) (og_acons (og_iload_n (i := 2) (j := 2) (by rfl) (by rfl) d_Almanac_comeNearer_13) (og_anil))) (by decide) ok_Yard_asks (v_Yard_asks (by decide)) og_w847 d_Almanac_comeNearer_14) d_Almanac_comeNearer_17 (by decide)) (og_sseq (og_iastore (N := 6) (og_f_Yard_due_N (og_aload_n (i := 0) (t := 14) (j := 0) (by rfl) (by rfl) d_Almanac_comeNearer_20) og_w70 d_Almanac_comeNearer_21) (by rfl) (og_iload_n (i := 2) (j := 2) (by rfl) (by rfl) d_Almanac_comeNearer_24) (og_imax (og_iconst (by decide) d_Almanac_comeNearer_25) (og_isub (og_iald (N := 6) (og_f_Yard_due_N (og_aload_n (i := 0) (t := 14) (j := 0) (by rfl) (by rfl) d_Almanac_comeNearer_26) og_w70 d_Almanac_comeNearer_27) (by rfl) (og_iload_n (i := 2) (j := 2) (by rfl) (by rfl) d_Almanac_comeNearer_30) d_Almanac_comeNearer_31) (og_iconst (by decide) d_Almanac_comeNearer_32) d_Almanac_comeNearer_33) (by decide) (by decide) og_w848 og_w767 og_w19 og_w768 d_Almanac_comeNearer_34) d_Almanac_comeNearer_37) (og_istore_n (i := 1) (lt' := [(0, 16), (1, 0), (2, 0)]) (og_econd (b := 0) (og_cor (og_cbne (tgt := 51) (og_iload_n (i := 1) (j := 1) (by rfl) (by rfl) d_Almanac_comeNearer_38) d_Almanac_comeNearer_39 (by decide)) (og_ccn og_n_eq (og_zne (tgt := 55) (og_iald (N := 6) (og_f_Yard_due_N (og_aload_n (i := 0) (t := 14) (j := 0) (by rfl) (by rfl) d_Almanac_comeNearer_42) og_w70 d_Almanac_comeNearer_43) (by rfl) (og_iload_n (i := 2) (j := 2) (by rfl) (by rfl) d_Almanac_comeNearer_46) d_Almanac_comeNearer_47) d_Almanac_comeNearer_48 (by decide)))) d_Almanac_comeNearer_51 d_Almanac_comeNearer_52 (by decide) d_Almanac_comeNearer_55 (by rfl)) (by rfl) (by decide) (by decide) d_Almanac_comeNearer_56)) (og_sskip)) (og_gS (b' := 4) (og_iinc (j := 2) (lt' := [(0, 16), (1, 0), (2, 0)]) (by rfl) (by decide) (by decide) d_Almanac_comeNearer_57) d_Almanac_comeNearer_60 (by decide)))) (by decide)) (og_sretz (og_iload_n (i := 1) (j := 1) (by rfl) (by rfl) d_Almanac_comeNearer_63) d_Almanac_comeNearer_64))) (fun h => by cases h)
abbrev og_c_Almanac_weigh : ByteArray := prog_2_method_6_code
abbrev og_y_Almanac_weigh : MethodName := ⟨"OpenGraves$Almanac", "weigh", "(LOpenGraves$Script;LOpenGraves$Yard;)V"⟩
theorem v_Almanac_weigh {own : String} {idx dep : Nat} (h : 4 + 1 ≤ dep) : og_sV own idx og_y_Almanac_weigh og_c_Almanac_weigh 4 2 4 dep 6 2 := ⟨⟨5, og_sl_Almanac, og_T_Almanac, 2, rfl, by decide, rfl⟩, og_w851, (og_memP (⟨"OpenGraves$Almanac", "weigh", "(LOpenGraves$Script;LOpenGraves$Yard;)V"⟩, 2) (List.mem_of_getElem? (i := 29) (by decide +kernel))), og_w13, og_w852, ⟨by decide +kernel, by decide +kernel, by decide +kernel⟩, h, by decide⟩
theorem d_Almanac_weigh_0 : decode og_c_Almanac_weigh 0 = .ok (.iconst 0, 1) := by decide +kernel
theorem d_Almanac_weigh_1 : decode og_c_Almanac_weigh 1 = .ok (.istore_n 3, 1) := by decide +kernel
theorem d_Almanac_weigh_2 : decode og_c_Almanac_weigh 2 = .ok (.iload_n 3, 1) := by decide +kernel
theorem d_Almanac_weigh_3 : decode og_c_Almanac_weigh 3 = .ok (.aload_n 2, 1) := by decide +kernel
theorem d_Almanac_weigh_4 : decode og_c_Almanac_weigh 4 = .ok (.getfield 54, 3) := by decide +kernel
theorem d_Almanac_weigh_7 : decode og_c_Almanac_weigh 7 = .ok (.if_icmp .ge 36, 3) := by decide +kernel
theorem d_Almanac_weigh_10 : decode og_c_Almanac_weigh 10 = .ok (.aload_n 2, 1) := by decide +kernel
theorem d_Almanac_weigh_11 : decode og_c_Almanac_weigh 11 = .ok (.iload_n 3, 1) := by decide +kernel
theorem d_Almanac_weigh_12 : decode og_c_Almanac_weigh 12 = .ok (.invokevirtual 57, 3) := by decide +kernel
theorem d_Almanac_weigh_15 : decode og_c_Almanac_weigh 15 = .ok (.ifCond .eq 22, 3) := by decide +kernel
theorem d_Almanac_weigh_18 : decode og_c_Almanac_weigh 18 = .ok (.aload_n 0, 1) := by decide +kernel
theorem d_Almanac_weigh_19 : decode og_c_Almanac_weigh 19 = .ok (.getfield 15, 3) := by decide +kernel
theorem d_Almanac_weigh_22 : decode og_c_Almanac_weigh 22 = .ok (.iload_n 3, 1) := by decide +kernel
theorem d_Almanac_weigh_23 : decode og_c_Almanac_weigh 23 = .ok (.aload_n 0, 1) := by decide +kernel
theorem d_Almanac_weigh_24 : decode og_c_Almanac_weigh 24 = .ok (.getfield 9, 3) := by decide +kernel
theorem d_Almanac_weigh_27 : decode og_c_Almanac_weigh 27 = .ok (.aload_n 1, 1) := by decide +kernel
theorem d_Almanac_weigh_28 : decode og_c_Almanac_weigh 28 = .ok (.bipush 10, 2) := by decide +kernel
theorem d_Almanac_weigh_30 : decode og_c_Almanac_weigh 30 = .ok (.aload_n 2, 1) := by decide +kernel
theorem d_Almanac_weigh_31 : decode og_c_Almanac_weigh 31 = .ok (.iload_n 3, 1) := by decide +kernel
theorem d_Almanac_weigh_32 : decode og_c_Almanac_weigh 32 = .ok (.iconst 0, 1) := by decide +kernel
theorem d_Almanac_weigh_33 : decode og_c_Almanac_weigh 33 = .ok (.invokevirtual 65, 3) := by decide +kernel
theorem d_Almanac_weigh_36 : decode og_c_Almanac_weigh 36 = .ok (.iastore, 1) := by decide +kernel
theorem d_Almanac_weigh_37 : decode og_c_Almanac_weigh 37 = .ok (.iinc 3 1, 3) := by decide +kernel
theorem d_Almanac_weigh_40 : decode og_c_Almanac_weigh 40 = .ok (.goto (-38), 3) := by decide +kernel
theorem d_Almanac_weigh_43 : decode og_c_Almanac_weigh 43 = .ok (.return_, 1) := by decide +kernel
def m_Almanac_weigh : og_Dn := og_den [10, 15, 16] 4 2 (og_seq (og_set 3 (og_k 0)) (og_while (og_cc og_rlt (og_loc 3) (og_get 1 (og_loc 2))) (og_if (og_cb (og_call m_Yard_lives [og_loc 2, og_loc 3])) (og_ast 8 (og_fix (fun _ => 9) (og_loc 0)) (og_loc 3) (og_call m_Reckoner_value [og_fix (fun _ => 6) (og_loc 0), og_loc 1, og_k 10, og_loc 2, og_loc 3, og_k 0])) (og_skip)) (og_inc 3 1)))
set_option maxRecDepth 20000 in
theorem ok_Almanac_weigh : og_MOK og_y_Almanac_weigh og_c_Almanac_weigh 4 2 4 [10, 15, 16] m_Almanac_weigh := og_method (b := 43) (lt' := [(0, 10), (1, 15), (2, 16)]) (by decide +kernel) (by decide) (by decide) (og_sdrop (lt' := [(0, 10), (1, 15), (2, 16), (3, 0)]) (lt2 := [(0, 10), (1, 15), (2, 16)]) (og_sseq (og_istore_n (i := 3) (lt' := [(0, 10), (1, 15), (2, 16), (3, 0)]) (og_iconst (by decide) d_Almanac_weigh_0) (by rfl) (by decide) (by decide) d_Almanac_weigh_1) (og_swhile (T := 10) (F := 43) (cp0 := 37) (og_ccn og_n_lt (og_ige (tgt := 43) (og_iload_n (i := 3) (j := 3) (by rfl) (by rfl) d_Almanac_weigh_2) (og_f_Yard_people_N (og_aload_n (i := 2) (t := 14) (j := 2) (by rfl) (by rfl) d_Almanac_weigh_3) og_w50 d_Almanac_weigh_4) d_Almanac_weigh_7 (by decide))) (og_sif (T := 18) (F := 37) (og_cbeq (tgt := 37) (og_callVz (og_acons (og_aload_n (i := 2) (t := 14) (j := 2) (by rfl) (by rfl) d_Almanac_weigh_10) (og_acons (og_iload_n (i := 3) (j := 3) (by rfl) (by rfl) d_Almanac_weigh_11) (og_anil))) (by decide) ok_Yard_lives (v_Yard_lives (by decide)) og_w835 d_Almanac_weigh_12) d_Almanac_weigh_15 (by decide)) (og_iastore (N := 8) (og_f_Almanac_weight (og_aload_n (i := 0) (t := 8) (j := 0) (by rfl) (by rfl) d_Almanac_weigh_18) og_w303 d_Almanac_weigh_19) (by rfl) (og_iload_n (i := 3) (j := 3) (by rfl) (by rfl) d_Almanac_weigh_22) (og_callVi (og_acons (og_f_Almanac_reckoner (og_aload_n (i := 0) (t := 8) (j := 0) (by rfl) (by rfl) d_Almanac_weigh_23) og_w302 d_Almanac_weigh_24) (og_acons (og_aload_n (i := 1) (t := 13) (j := 1) (by rfl) (by rfl) d_Almanac_weigh_27) (og_acons (og_bipush (by decide) d_Almanac_weigh_28) (og_acons (og_aload_n (i := 2) (t := 14) (j := 2) (by rfl) (by rfl) d_Almanac_weigh_30) (og_acons (og_iload_n (i := 3) (j := 3) (by rfl) (by rfl) d_Almanac_weigh_31) (og_acons (og_iconst (by decide) d_Almanac_weigh_32) (og_anil))))))) (by decide) ok_Reckoner_value (v_Reckoner_value (by decide)) og_w837 d_Almanac_weigh_33) d_Almanac_weigh_36) (og_sskip)) (og_gS (b' := 2) (og_iinc (j := 3) (lt' := [(0, 10), (1, 15), (2, 16), (3, 0)]) (by rfl) (by decide) (by decide) d_Almanac_weigh_37) d_Almanac_weigh_40 (by decide)))) (by decide)) (fun _ => d_Almanac_weigh_43)
abbrev og_c_Almanac_heaviest : ByteArray := prog_2_method_7_code
abbrev og_y_Almanac_heaviest : MethodName := ⟨"OpenGraves$Almanac", "heaviest", "(LOpenGraves$Yard;I)I"⟩
theorem v_Almanac_heaviest {own : String} {idx dep : Nat} (h : 3 + 1 ≤ dep) : og_sV own idx og_y_Almanac_heaviest og_c_Almanac_heaviest 5 0 3 dep 6 2 := ⟨⟨5, og_sl_Almanac, og_T_Almanac, 2, rfl, by decide, rfl⟩, og_w859, (og_memP (⟨"OpenGraves$Almanac", "heaviest", "(LOpenGraves$Yard;I)I"⟩, 2) (List.mem_of_getElem? (i := 31) (by decide +kernel))), og_w13, og_w860, ⟨by decide +kernel, by decide +kernel, by decide +kernel⟩, h, by decide⟩
theorem d_Almanac_heaviest_0 : decode og_c_Almanac_heaviest 0 = .ok (.iconst (-1), 1) := by decide +kernel
theorem d_Almanac_heaviest_1 : decode og_c_Almanac_heaviest 1 = .ok (.istore_n 3, 1) := by decide +kernel
theorem d_Almanac_heaviest_2 : decode og_c_Almanac_heaviest 2 = .ok (.iconst 0, 1) := by decide +kernel
theorem d_Almanac_heaviest_3 : decode og_c_Almanac_heaviest 3 = .ok (.istore 4, 2) := by decide +kernel
theorem d_Almanac_heaviest_5 : decode og_c_Almanac_heaviest 5 = .ok (.iload 4, 2) := by decide +kernel
theorem d_Almanac_heaviest_7 : decode og_c_Almanac_heaviest 7 = .ok (.aload_n 1, 1) := by decide +kernel
theorem d_Almanac_heaviest_8 : decode og_c_Almanac_heaviest 8 = .ok (.getfield 54, 3) := by decide +kernel
theorem d_Almanac_heaviest_11 : decode og_c_Almanac_heaviest 11 = .ok (.if_icmp .ge 52, 3) := by decide +kernel
theorem d_Almanac_heaviest_14 : decode og_c_Almanac_heaviest 14 = .ok (.aload_n 1, 1) := by decide +kernel
theorem d_Almanac_heaviest_15 : decode og_c_Almanac_heaviest 15 = .ok (.iload 4, 2) := by decide +kernel
theorem d_Almanac_heaviest_17 : decode og_c_Almanac_heaviest 17 = .ok (.invokevirtual 57, 3) := by decide +kernel
theorem d_Almanac_heaviest_20 : decode og_c_Almanac_heaviest 20 = .ok (.ifCond .eq 37, 3) := by decide +kernel
theorem d_Almanac_heaviest_23 : decode og_c_Almanac_heaviest 23 = .ok (.aload_n 1, 1) := by decide +kernel
theorem d_Almanac_heaviest_24 : decode og_c_Almanac_heaviest 24 = .ok (.iload 4, 2) := by decide +kernel
theorem d_Almanac_heaviest_26 : decode og_c_Almanac_heaviest 26 = .ok (.iload_n 2, 1) := by decide +kernel
theorem d_Almanac_heaviest_27 : decode og_c_Almanac_heaviest 27 = .ok (.invokevirtual 95, 3) := by decide +kernel
theorem d_Almanac_heaviest_30 : decode og_c_Almanac_heaviest 30 = .ok (.ifCond .eq 27, 3) := by decide +kernel
theorem d_Almanac_heaviest_33 : decode og_c_Almanac_heaviest 33 = .ok (.iload_n 3, 1) := by decide +kernel
theorem d_Almanac_heaviest_34 : decode og_c_Almanac_heaviest 34 = .ok (.iconst (-1), 1) := by decide +kernel
theorem d_Almanac_heaviest_35 : decode og_c_Almanac_heaviest 35 = .ok (.if_icmp .eq 19, 3) := by decide +kernel
theorem d_Almanac_heaviest_38 : decode og_c_Almanac_heaviest 38 = .ok (.aload_n 0, 1) := by decide +kernel
theorem d_Almanac_heaviest_39 : decode og_c_Almanac_heaviest 39 = .ok (.getfield 15, 3) := by decide +kernel
theorem d_Almanac_heaviest_42 : decode og_c_Almanac_heaviest 42 = .ok (.iload 4, 2) := by decide +kernel
theorem d_Almanac_heaviest_44 : decode og_c_Almanac_heaviest 44 = .ok (.iaload, 1) := by decide +kernel
theorem d_Almanac_heaviest_45 : decode og_c_Almanac_heaviest 45 = .ok (.aload_n 0, 1) := by decide +kernel
theorem d_Almanac_heaviest_46 : decode og_c_Almanac_heaviest 46 = .ok (.getfield 15, 3) := by decide +kernel
theorem d_Almanac_heaviest_49 : decode og_c_Almanac_heaviest 49 = .ok (.iload_n 3, 1) := by decide +kernel
theorem d_Almanac_heaviest_50 : decode og_c_Almanac_heaviest 50 = .ok (.iaload, 1) := by decide +kernel
theorem d_Almanac_heaviest_51 : decode og_c_Almanac_heaviest 51 = .ok (.if_icmp .le 6, 3) := by decide +kernel
theorem d_Almanac_heaviest_54 : decode og_c_Almanac_heaviest 54 = .ok (.iload 4, 2) := by decide +kernel
theorem d_Almanac_heaviest_56 : decode og_c_Almanac_heaviest 56 = .ok (.istore_n 3, 1) := by decide +kernel
theorem d_Almanac_heaviest_57 : decode og_c_Almanac_heaviest 57 = .ok (.iinc 4 1, 3) := by decide +kernel
theorem d_Almanac_heaviest_60 : decode og_c_Almanac_heaviest 60 = .ok (.goto (-55), 3) := by decide +kernel
theorem d_Almanac_heaviest_63 : decode og_c_Almanac_heaviest 63 = .ok (.iload_n 3, 1) := by decide +kernel
theorem d_Almanac_heaviest_64 : decode og_c_Almanac_heaviest 64 = .ok (.ireturn, 1) := by decide +kernel
def m_Almanac_heaviest : og_Dn := og_den [10, 16, 0] 5 0 (og_seq (og_set 3 (og_k (-1))) (og_cut (og_seq (og_set 4 (og_k 0)) (og_while (og_cc og_rlt (og_loc 4) (og_get 1 (og_loc 1))) (og_if (og_and (og_and (og_cb (og_call m_Yard_lives [og_loc 1, og_loc 4])) (og_cb (og_call m_Yard_fits [og_loc 1, og_loc 4, og_loc 2]))) (og_or (og_cc og_req (og_loc 3) (og_k (-1))) (og_cc og_rgt (og_ald 8 (og_fix (fun _ => 9) (og_loc 0)) (og_loc 4)) (og_ald 8 (og_fix (fun _ => 9) (og_loc 0)) (og_loc 3))))) (og_set 3 (og_loc 4)) (og_skip)) (og_inc 4 1))) (og_ret (og_loc 3))))
set_option maxRecDepth 20000 in
theorem ok_Almanac_heaviest : og_MOK og_y_Almanac_heaviest og_c_Almanac_heaviest 5 0 3 [10, 16, 0] m_Almanac_heaviest := og_method (b := 0) (lt' := []) (by decide +kernel) (by decide) (by decide) (og_sseq (og_istore_n (i := 3) (lt' := [(0, 10), (1, 16), (2, 0), (3, 0)]) (og_iconst (by decide) d_Almanac_heaviest_0) (by rfl) (by decide) (by decide) d_Almanac_heaviest_1) (og_scut (og_sdrop (lt' := [(0, 10), (1, 16), (2, 0), (3, 0), (4, 0)]) (lt2 := [(0, 10), (1, 16), (2, 0), (3, 0)]) (og_sseq (og_istore (i := 4) (lt' := [(0, 10), (1, 16), (2, 0), (3, 0), (4, 0)]) (og_iconst (by decide) d_Almanac_heaviest_2) (by decide) (by decide) d_Almanac_heaviest_3) (og_swhile (T := 14) (F := 63) (cp0 := 57) (og_ccn og_n_lt (og_ige (tgt := 63) (og_iload (i := 4) (j := 4) (by rfl) d_Almanac_heaviest_5) (og_f_Yard_people_N (og_aload_n (i := 1) (t := 14) (j := 1) (by rfl) (by rfl) d_Almanac_heaviest_7) og_w50 d_Almanac_heaviest_8) d_Almanac_heaviest_11 (by decide))) (og_sif (T := 54) (F := 57) (og_cand (og_cand (og_cbeq (tgt := 57) (og_callVz (og_acons (og_aload_n (i := 1) (t := 14) (j := 1) (by rfl) (by rfl) d_Almanac_heaviest_14) (og_acons (og_iload (i := 4) (j := 4) (by rfl) d_Almanac_heaviest_15) (og_anil))) (by decide) ok_Yard_lives (v_Yard_lives (by decide)) og_w835 d_Almanac_heaviest_17) d_Almanac_heaviest_20 (by decide)) (og_cbeq (tgt := 57) (og_callVz (og_acons (og_aload_n (i := 1) (t := 14) (j := 1) (by rfl) (by rfl) d_Almanac_heaviest_23) (og_acons (og_iload (i := 4) (j := 4) (by rfl) d_Almanac_heaviest_24) (og_acons (og_iload_n (i := 2) (j := 2) (by rfl) (by rfl) d_Almanac_heaviest_26) (og_anil)))) (by decide) ok_Yard_fits (v_Yard_fits (by decide)) og_w861 d_Almanac_heaviest_27) d_Almanac_heaviest_30 (by decide))) (og_cor (og_ieq (tgt := 54) (og_iload_n (i := 3) (j := 3) (by rfl) (by rfl) d_Almanac_heaviest_33) (og_iconst (by decide) d_Almanac_heaviest_34) d_Almanac_heaviest_35 (by decide)) (og_ccn og_n_gt (og_ile (tgt := 57) (og_iald (N := 8) (og_f_Almanac_weight (og_aload_n (i := 0) (t := 8) (j := 0) (by rfl) (by rfl) d_Almanac_heaviest_38) og_w303 d_Almanac_heaviest_39) (by rfl) (og_iload (i := 4) (j := 4) (by rfl) d_Almanac_heaviest_42) d_Almanac_heaviest_44) (og_iald (N := 8) (og_f_Almanac_weight (og_aload_n (i := 0) (t := 8) (j := 0) (by rfl) (by rfl) d_Almanac_heaviest_45) og_w303 d_Almanac_heaviest_46) (by rfl) (og_iload_n (i := 3) (j := 3) (by rfl) (by rfl) d_Almanac_heaviest_49) d_Almanac_heaviest_50) d_Almanac_heaviest_51 (by decide))))) (og_istore_n (i := 3) (lt' := [(0, 10), (1, 16), (2, 0), (3, 0), (4, 0)]) (og_iload (i := 4) (j := 4) (by rfl) d_Almanac_heaviest_54) (by rfl) (by decide) (by decide) d_Almanac_heaviest_56) (og_sskip)) (og_gS (b' := 5) (og_iinc (j := 4) (lt' := [(0, 10), (1, 16), (2, 0), (3, 0), (4, 0)]) (by rfl) (by decide) (by decide) d_Almanac_heaviest_57) d_Almanac_heaviest_60 (by decide)))) (by decide)) (og_sreti (og_iload_n (i := 3) (j := 3) (by rfl) (by rfl) d_Almanac_heaviest_63) d_Almanac_heaviest_64))) (fun h => by cases h)
abbrev og_c_Almanac_takeDue : ByteArray := prog_2_method_5_code
abbrev og_y_Almanac_takeDue : MethodName := ⟨"OpenGraves$Almanac", "takeDue", "(LOpenGraves$Yard;)I"⟩
theorem v_Almanac_takeDue {own : String} {idx dep : Nat} (h : 4 + 1 ≤ dep) : og_sV own idx og_y_Almanac_takeDue og_c_Almanac_takeDue 5 0 4 dep 6 1 := ⟨⟨5, og_sl_Almanac, og_T_Almanac, 2, rfl, by decide, rfl⟩, og_w855, (og_memP (⟨"OpenGraves$Almanac", "takeDue", "(LOpenGraves$Yard;)I"⟩, 2) (List.mem_of_getElem? (i := 30) (by decide +kernel))), og_w13, og_w856, ⟨by decide +kernel, by decide +kernel, by decide +kernel⟩, h, by decide⟩
theorem d_Almanac_takeDue_0 : decode og_c_Almanac_takeDue 0 = .ok (.iconst 0, 1) := by decide +kernel
theorem d_Almanac_takeDue_1 : decode og_c_Almanac_takeDue 1 = .ok (.istore_n 2, 1) := by decide +kernel
theorem d_Almanac_takeDue_2 : decode og_c_Almanac_takeDue 2 = .ok (.iconst 0, 1) := by decide +kernel
theorem d_Almanac_takeDue_3 : decode og_c_Almanac_takeDue 3 = .ok (.istore_n 3, 1) := by decide +kernel
theorem d_Almanac_takeDue_4 : decode og_c_Almanac_takeDue 4 = .ok (.iload_n 3, 1) := by decide +kernel
theorem d_Almanac_takeDue_5 : decode og_c_Almanac_takeDue 5 = .ok (.aload_n 1, 1) := by decide +kernel
theorem d_Almanac_takeDue_6 : decode og_c_Almanac_takeDue 6 = .ok (.getfield 79, 3) := by decide +kernel
theorem d_Almanac_takeDue_9 : decode og_c_Almanac_takeDue 9 = .ok (.if_icmp .ge 55, 3) := by decide +kernel
theorem d_Almanac_takeDue_12 : decode og_c_Almanac_takeDue 12 = .ok (.aload_n 1, 1) := by decide +kernel
theorem d_Almanac_takeDue_13 : decode og_c_Almanac_takeDue 13 = .ok (.iload_n 3, 1) := by decide +kernel
theorem d_Almanac_takeDue_14 : decode og_c_Almanac_takeDue 14 = .ok (.invokevirtual 82, 3) := by decide +kernel
theorem d_Almanac_takeDue_17 : decode og_c_Almanac_takeDue 17 = .ok (.ifCond .eq 21, 3) := by decide +kernel
theorem d_Almanac_takeDue_20 : decode og_c_Almanac_takeDue 20 = .ok (.aload_n 1, 1) := by decide +kernel
theorem d_Almanac_takeDue_21 : decode og_c_Almanac_takeDue 21 = .ok (.getfield 85, 3) := by decide +kernel
theorem d_Almanac_takeDue_24 : decode og_c_Almanac_takeDue 24 = .ok (.iload_n 3, 1) := by decide +kernel
theorem d_Almanac_takeDue_25 : decode og_c_Almanac_takeDue 25 = .ok (.iaload, 1) := by decide +kernel
theorem d_Almanac_takeDue_26 : decode og_c_Almanac_takeDue 26 = .ok (.ifCond .ne 12, 3) := by decide +kernel
theorem d_Almanac_takeDue_29 : decode og_c_Almanac_takeDue 29 = .ok (.aload_n 0, 1) := by decide +kernel
theorem d_Almanac_takeDue_30 : decode og_c_Almanac_takeDue 30 = .ok (.aload_n 1, 1) := by decide +kernel
theorem d_Almanac_takeDue_31 : decode og_c_Almanac_takeDue 31 = .ok (.iload_n 3, 1) := by decide +kernel
theorem d_Almanac_takeDue_32 : decode og_c_Almanac_takeDue 32 = .ok (.invokevirtual 91, 3) := by decide +kernel
theorem d_Almanac_takeDue_35 : decode og_c_Almanac_takeDue 35 = .ok (.goto 4, 3) := by decide +kernel
theorem d_Almanac_takeDue_38 : decode og_c_Almanac_takeDue 38 = .ok (.iconst (-1), 1) := by decide +kernel
theorem d_Almanac_takeDue_39 : decode og_c_Almanac_takeDue 39 = .ok (.istore 4, 2) := by decide +kernel
theorem d_Almanac_takeDue_41 : decode og_c_Almanac_takeDue 41 = .ok (.iload 4, 2) := by decide +kernel
theorem d_Almanac_takeDue_43 : decode og_c_Almanac_takeDue 43 = .ok (.iconst (-1), 1) := by decide +kernel
theorem d_Almanac_takeDue_44 : decode og_c_Almanac_takeDue 44 = .ok (.if_icmp .eq 14, 3) := by decide +kernel
theorem d_Almanac_takeDue_47 : decode og_c_Almanac_takeDue 47 = .ok (.aload_n 1, 1) := by decide +kernel
theorem d_Almanac_takeDue_48 : decode og_c_Almanac_takeDue 48 = .ok (.iload 4, 2) := by decide +kernel
theorem d_Almanac_takeDue_50 : decode og_c_Almanac_takeDue 50 = .ok (.iload_n 3, 1) := by decide +kernel
theorem d_Almanac_takeDue_51 : decode og_c_Almanac_takeDue 51 = .ok (.iconst 1, 1) := by decide +kernel
theorem d_Almanac_takeDue_52 : decode og_c_Almanac_takeDue 52 = .ok (.invokevirtual 75, 3) := by decide +kernel
theorem d_Almanac_takeDue_55 : decode og_c_Almanac_takeDue 55 = .ok (.iinc 2 1, 3) := by decide +kernel
theorem d_Almanac_takeDue_58 : decode og_c_Almanac_takeDue 58 = .ok (.iinc 3 1, 3) := by decide +kernel
theorem d_Almanac_takeDue_61 : decode og_c_Almanac_takeDue 61 = .ok (.goto (-57), 3) := by decide +kernel
theorem d_Almanac_takeDue_64 : decode og_c_Almanac_takeDue 64 = .ok (.iload_n 2, 1) := by decide +kernel
theorem d_Almanac_takeDue_65 : decode og_c_Almanac_takeDue 65 = .ok (.ireturn, 1) := by decide +kernel
def m_Almanac_takeDue : og_Dn := og_den [10, 16] 5 0 (og_seq (og_set 2 (og_k 0)) (og_cut (og_seq (og_set 3 (og_k 0)) (og_while (og_cc og_rlt (og_loc 3) (og_get 0 (og_loc 1))) (og_seq (og_set 4 (og_ei (og_and (og_cb (og_call m_Yard_asks [og_loc 1, og_loc 3])) (og_cc og_req (og_ald 6 (og_fix (fun i => i + 3) (og_loc 1)) (og_loc 3)) (og_k 0))) (og_call m_Almanac_heaviest [og_loc 0, og_loc 1, og_loc 3]) (og_k (-1)))) (og_if (og_cc og_rne (og_loc 4) (og_k (-1))) (og_seq (og_exp (og_call m_Yard_bury [og_loc 1, og_loc 4, og_loc 3, og_k 1])) (og_inc 2 1)) (og_skip))) (og_inc 3 1))) (og_ret (og_loc 2))))
set_option maxRecDepth 20000 in
theorem ok_Almanac_takeDue : og_MOK og_y_Almanac_takeDue og_c_Almanac_takeDue 5 0 4 [10, 16] m_Almanac_takeDue := og_method (b := 0) (lt' := []) (by decide +kernel) (by decide) (by decide) (og_sseq (og_istore_n (i := 2) (lt' := [(0, 10), (1, 16), (2, 0)]) (og_iconst (by decide) d_Almanac_takeDue_0) (by rfl) (by decide) (by decide) d_Almanac_takeDue_1) (og_scut (og_sdrop (lt' := [(0, 10), (1, 16), (2, 0), (3, 0)]) (lt2 := [(0, 10), (1, 16), (2, 0)]) (og_sseq (og_istore_n (i := 3) (lt' := [(0, 10), (1, 16), (2, 0), (3, 0)]) (og_iconst (by decide) d_Almanac_takeDue_2) (by rfl) (by decide) (by decide) d_Almanac_takeDue_3) (og_swhile (T := 12) (F := 64) (cp0 := 58) (og_ccn og_n_lt (og_ige (tgt := 64) (og_iload_n (i := 3) (j := 3) (by rfl) (by rfl) d_Almanac_takeDue_4) (og_f_Yard_graves_N (og_aload_n (i := 1) (t := 14) (j := 1) (by rfl) (by rfl) d_Almanac_takeDue_5) og_w43 d_Almanac_takeDue_6) d_Almanac_takeDue_9 (by decide))) (og_sdrop (lt' := [(0, 10), (1, 16), (2, 0), (3, 0), (4, 0)]) (lt2 := [(0, 10), (1, 16), (2, 0), (3, 0)]) (og_sseq (og_istore (i := 4) (lt' := [(0, 10), (1, 16), (2, 0), (3, 0), (4, 0)]) (og_eite (og_cand (og_cbeq (tgt := 38) (og_callVz (og_acons (og_aload_n (i := 1) (t := 14) (j := 1) (by rfl) (by rfl) d_Almanac_takeDue_12) (og_acons (og_iload_n (i := 3) (j := 3) (by rfl) (by rfl) d_Almanac_takeDue_13) (og_anil))) (by decide) ok_Yard_asks (v_Yard_asks (by decide)) og_w847 d_Almanac_takeDue_14) d_Almanac_takeDue_17 (by decide)) (og_ccn og_n_eq (og_zne (tgt := 38) (og_iald (N := 6) (og_f_Yard_due_N (og_aload_n (i := 1) (t := 14) (j := 1) (by rfl) (by rfl) d_Almanac_takeDue_20) og_w70 d_Almanac_takeDue_21) (by rfl) (og_iload_n (i := 3) (j := 3) (by rfl) (by rfl) d_Almanac_takeDue_24) d_Almanac_takeDue_25) d_Almanac_takeDue_26 (by decide)))) (og_callVi (og_acons (og_aload_n (i := 0) (t := 8) (j := 0) (by rfl) (by rfl) d_Almanac_takeDue_29) (og_acons (og_aload_n (i := 1) (t := 14) (j := 1) (by rfl) (by rfl) d_Almanac_takeDue_30) (og_acons (og_iload_n (i := 3) (j := 3) (by rfl) (by rfl) d_Almanac_takeDue_31) (og_anil)))) (by decide) ok_Almanac_heaviest (v_Almanac_heaviest (by decide)) og_w857 d_Almanac_takeDue_32) d_Almanac_takeDue_35 (by decide) (og_iconst (by decide) d_Almanac_takeDue_38)) (by decide) (by decide) d_Almanac_takeDue_39) (og_sif (T := 47) (F := 58) (og_ccn og_n_ne (og_ieq (tgt := 58) (og_iload (i := 4) (j := 4) (by rfl) d_Almanac_takeDue_41) (og_iconst (by decide) d_Almanac_takeDue_43) d_Almanac_takeDue_44 (by decide))) (og_sseq (og_callVv (og_acons (og_aload_n (i := 1) (t := 14) (j := 1) (by rfl) (by rfl) d_Almanac_takeDue_47) (og_acons (og_iload (i := 4) (j := 4) (by rfl) d_Almanac_takeDue_48) (og_acons (og_iload_n (i := 3) (j := 3) (by rfl) (by rfl) d_Almanac_takeDue_50) (og_acons (og_iconst (by decide) d_Almanac_takeDue_51) (og_anil))))) ok_Yard_bury (v_Yard_bury (by decide)) og_w839 d_Almanac_takeDue_52) (og_iinc (j := 2) (lt' := [(0, 10), (1, 16), (2, 0), (3, 0), (4, 0)]) (by rfl) (by decide) (by decide) d_Almanac_takeDue_55)) (og_sskip))) (by decide)) (og_gS (b' := 4) (og_iinc (j := 3) (lt' := [(0, 10), (1, 16), (2, 0), (3, 0)]) (by rfl) (by decide) (by decide) d_Almanac_takeDue_58) d_Almanac_takeDue_61 (by decide)))) (by decide)) (og_sreti (og_iload_n (i := 2) (j := 2) (by rfl) (by rfl) d_Almanac_takeDue_64) d_Almanac_takeDue_65))) (fun h => by cases h)
abbrev og_c_Almanac_changeHearts : ByteArray := prog_2_method_8_code
abbrev og_y_Almanac_changeHearts : MethodName := ⟨"OpenGraves$Almanac", "changeHearts", "(LOpenGraves$Script;LOpenGraves$Yard;I)V"⟩
theorem v_Almanac_changeHearts {own : String} {idx dep : Nat} (h : 4 + 1 ≤ dep) : og_sV own idx og_y_Almanac_changeHearts og_c_Almanac_changeHearts 5 2 4 dep 6 3 := ⟨⟨5, og_sl_Almanac, og_T_Almanac, 2, rfl, by decide, rfl⟩, og_w864, (og_memP (⟨"OpenGraves$Almanac", "changeHearts", "(LOpenGraves$Script;LOpenGraves$Yard;I)V"⟩, 2) (List.mem_of_getElem? (i := 32) (by decide +kernel))), og_w13, og_w865, ⟨by decide +kernel, by decide +kernel, by decide +kernel⟩, h, by decide⟩
theorem d_Almanac_changeHearts_0 : decode og_c_Almanac_changeHearts 0 = .ok (.iconst 0, 1) := by decide +kernel
theorem d_Almanac_changeHearts_1 : decode og_c_Almanac_changeHearts 1 = .ok (.istore 4, 2) := by decide +kernel
theorem d_Almanac_changeHearts_3 : decode og_c_Almanac_changeHearts 3 = .ok (.iload 4, 2) := by decide +kernel
theorem d_Almanac_changeHearts_5 : decode og_c_Almanac_changeHearts 5 = .ok (.aload_n 2, 1) := by decide +kernel
theorem d_Almanac_changeHearts_6 : decode og_c_Almanac_changeHearts 6 = .ok (.getfield 54, 3) := by decide +kernel
theorem d_Almanac_changeHearts_9 : decode og_c_Almanac_changeHearts 9 = .ok (.if_icmp .ge 44, 3) := by decide +kernel
theorem d_Almanac_changeHearts_12 : decode og_c_Almanac_changeHearts 12 = .ok (.aload_n 2, 1) := by decide +kernel
theorem d_Almanac_changeHearts_13 : decode og_c_Almanac_changeHearts 13 = .ok (.iload 4, 2) := by decide +kernel
theorem d_Almanac_changeHearts_15 : decode og_c_Almanac_changeHearts 15 = .ok (.invokevirtual 57, 3) := by decide +kernel
theorem d_Almanac_changeHearts_18 : decode og_c_Almanac_changeHearts 18 = .ok (.ifCond .eq 29, 3) := by decide +kernel
theorem d_Almanac_changeHearts_21 : decode og_c_Almanac_changeHearts 21 = .ok (.aload_n 2, 1) := by decide +kernel
theorem d_Almanac_changeHearts_22 : decode og_c_Almanac_changeHearts 22 = .ok (.getfield 99, 3) := by decide +kernel
theorem d_Almanac_changeHearts_25 : decode og_c_Almanac_changeHearts 25 = .ok (.iload 4, 2) := by decide +kernel
theorem d_Almanac_changeHearts_27 : decode og_c_Almanac_changeHearts 27 = .ok (.aload_n 0, 1) := by decide +kernel
theorem d_Almanac_changeHearts_28 : decode og_c_Almanac_changeHearts 28 = .ok (.getfield 9, 3) := by decide +kernel
theorem d_Almanac_changeHearts_31 : decode og_c_Almanac_changeHearts 31 = .ok (.aload_n 1, 1) := by decide +kernel
theorem d_Almanac_changeHearts_32 : decode og_c_Almanac_changeHearts 32 = .ok (.bipush 11, 2) := by decide +kernel
theorem d_Almanac_changeHearts_34 : decode og_c_Almanac_changeHearts 34 = .ok (.aload_n 2, 1) := by decide +kernel
theorem d_Almanac_changeHearts_35 : decode og_c_Almanac_changeHearts 35 = .ok (.iload 4, 2) := by decide +kernel
theorem d_Almanac_changeHearts_37 : decode og_c_Almanac_changeHearts 37 = .ok (.iload_n 3, 1) := by decide +kernel
theorem d_Almanac_changeHearts_38 : decode og_c_Almanac_changeHearts 38 = .ok (.invokevirtual 65, 3) := by decide +kernel
theorem d_Almanac_changeHearts_41 : decode og_c_Almanac_changeHearts 41 = .ok (.bipush 9, 2) := by decide +kernel
theorem d_Almanac_changeHearts_43 : decode og_c_Almanac_changeHearts 43 = .ok (.invokestatic 102, 3) := by decide +kernel
theorem d_Almanac_changeHearts_46 : decode og_c_Almanac_changeHearts 46 = .ok (.iastore, 1) := by decide +kernel
theorem d_Almanac_changeHearts_47 : decode og_c_Almanac_changeHearts 47 = .ok (.iinc 4 1, 3) := by decide +kernel
theorem d_Almanac_changeHearts_50 : decode og_c_Almanac_changeHearts 50 = .ok (.goto (-47), 3) := by decide +kernel
theorem d_Almanac_changeHearts_53 : decode og_c_Almanac_changeHearts 53 = .ok (.return_, 1) := by decide +kernel
def m_Almanac_changeHearts : og_Dn := og_den [10, 15, 16, 0] 5 2 (og_seq (og_set 4 (og_k 0)) (og_while (og_cc og_rlt (og_loc 4) (og_get 1 (og_loc 2))) (og_if (og_cb (og_call m_Yard_lives [og_loc 2, og_loc 4])) (og_ast 8 (og_fix (fun i => i + 7) (og_loc 2)) (og_loc 4) (og_call m_OG_cut [og_call m_Reckoner_value [og_fix (fun _ => 6) (og_loc 0), og_loc 1, og_k 11, og_loc 2, og_loc 4, og_loc 3], og_k 9])) (og_skip)) (og_inc 4 1)))
set_option maxRecDepth 20000 in
theorem ok_Almanac_changeHearts : og_MOK og_y_Almanac_changeHearts og_c_Almanac_changeHearts 5 2 4 [10, 15, 16, 0] m_Almanac_changeHearts := og_method (b := 53) (lt' := [(0, 10), (1, 15), (2, 16), (3, 0)]) (by decide +kernel) (by decide) (by decide) (og_sdrop (lt' := [(0, 10), (1, 15), (2, 16), (3, 0), (4, 0)]) (lt2 := [(0, 10), (1, 15), (2, 16), (3, 0)]) (og_sseq (og_istore (i := 4) (lt' := [(0, 10), (1, 15), (2, 16), (3, 0), (4, 0)]) (og_iconst (by decide) d_Almanac_changeHearts_0) (by decide) (by decide) d_Almanac_changeHearts_1) (og_swhile (T := 12) (F := 53) (cp0 := 47) (og_ccn og_n_lt (og_ige (tgt := 53) (og_iload (i := 4) (j := 4) (by rfl) d_Almanac_changeHearts_3) (og_f_Yard_people_N (og_aload_n (i := 2) (t := 14) (j := 2) (by rfl) (by rfl) d_Almanac_changeHearts_5) og_w50 d_Almanac_changeHearts_6) d_Almanac_changeHearts_9 (by decide))) (og_sif (T := 21) (F := 47) (og_cbeq (tgt := 47) (og_callVz (og_acons (og_aload_n (i := 2) (t := 14) (j := 2) (by rfl) (by rfl) d_Almanac_changeHearts_12) (og_acons (og_iload (i := 4) (j := 4) (by rfl) d_Almanac_changeHearts_13) (og_anil))) (by decide) ok_Yard_lives (v_Yard_lives (by decide)) og_w835 d_Almanac_changeHearts_15) d_Almanac_changeHearts_18 (by decide)) (og_iastore (N := 8) (og_f_Yard_will_N (og_aload_n (i := 2) (t := 14) (j := 2) (by rfl) (by rfl) d_Almanac_changeHearts_21) og_w90 d_Almanac_changeHearts_22) (by rfl) (og_iload (i := 4) (j := 4) (by rfl) d_Almanac_changeHearts_25) (og_callNi (og_acons (og_callVi (og_acons (og_f_Almanac_reckoner (og_aload_n (i := 0) (t := 8) (j := 0) (by rfl) (by rfl) d_Almanac_changeHearts_27) og_w302 d_Almanac_changeHearts_28) (og_acons (og_aload_n (i := 1) (t := 13) (j := 1) (by rfl) (by rfl) d_Almanac_changeHearts_31) (og_acons (og_bipush (by decide) d_Almanac_changeHearts_32) (og_acons (og_aload_n (i := 2) (t := 14) (j := 2) (by rfl) (by rfl) d_Almanac_changeHearts_34) (og_acons (og_iload (i := 4) (j := 4) (by rfl) d_Almanac_changeHearts_35) (og_acons (og_iload_n (i := 3) (j := 3) (by rfl) (by rfl) d_Almanac_changeHearts_37) (og_anil))))))) (by decide) ok_Reckoner_value (v_Reckoner_value (by decide)) og_w837 d_Almanac_changeHearts_38) (og_acons (og_bipush (by decide) d_Almanac_changeHearts_41) (og_anil))) (by decide) ok_OG_cut (v_OG_cut (by decide)) og_w866 d_Almanac_changeHearts_43) d_Almanac_changeHearts_46) (og_sskip)) (og_gS (b' := 3) (og_iinc (j := 4) (lt' := [(0, 10), (1, 15), (2, 16), (3, 0), (4, 0)]) (by rfl) (by decide) (by decide) d_Almanac_changeHearts_47) d_Almanac_changeHearts_50 (by decide)))) (by decide)) (fun _ => d_Almanac_changeHearts_53)
abbrev og_c_Almanac_growOlder : ByteArray := prog_2_method_9_code
abbrev og_y_Almanac_growOlder : MethodName := ⟨"OpenGraves$Almanac", "growOlder", "(LOpenGraves$Yard;)V"⟩
theorem v_Almanac_growOlder {dep : Nat} (h : 3 + 1 ≤ dep) : og_sS og_y_Almanac_growOlder og_c_Almanac_growOlder 2 2 3 dep 1 := ⟨og_w868, og_w13, og_w869, ⟨by decide +kernel, by decide +kernel, by decide +kernel⟩, h, by decide⟩
theorem d_Almanac_growOlder_0 : decode og_c_Almanac_growOlder 0 = .ok (.iconst 0, 1) := by decide +kernel
theorem d_Almanac_growOlder_1 : decode og_c_Almanac_growOlder 1 = .ok (.istore_n 1, 1) := by decide +kernel
theorem d_Almanac_growOlder_2 : decode og_c_Almanac_growOlder 2 = .ok (.iload_n 1, 1) := by decide +kernel
theorem d_Almanac_growOlder_3 : decode og_c_Almanac_growOlder 3 = .ok (.aload_n 0, 1) := by decide +kernel
theorem d_Almanac_growOlder_4 : decode og_c_Almanac_growOlder 4 = .ok (.getfield 54, 3) := by decide +kernel
theorem d_Almanac_growOlder_7 : decode og_c_Almanac_growOlder 7 = .ok (.if_icmp .ge 36, 3) := by decide +kernel
theorem d_Almanac_growOlder_10 : decode og_c_Almanac_growOlder 10 = .ok (.aload_n 0, 1) := by decide +kernel
theorem d_Almanac_growOlder_11 : decode og_c_Almanac_growOlder 11 = .ok (.iload_n 1, 1) := by decide +kernel
theorem d_Almanac_growOlder_12 : decode og_c_Almanac_growOlder 12 = .ok (.invokevirtual 57, 3) := by decide +kernel
theorem d_Almanac_growOlder_15 : decode og_c_Almanac_growOlder 15 = .ok (.ifCond .eq 22, 3) := by decide +kernel
theorem d_Almanac_growOlder_18 : decode og_c_Almanac_growOlder 18 = .ok (.aload_n 0, 1) := by decide +kernel
theorem d_Almanac_growOlder_19 : decode og_c_Almanac_growOlder 19 = .ok (.getfield 105, 3) := by decide +kernel
theorem d_Almanac_growOlder_22 : decode og_c_Almanac_growOlder 22 = .ok (.iload_n 1, 1) := by decide +kernel
theorem d_Almanac_growOlder_23 : decode og_c_Almanac_growOlder 23 = .ok (.bipush 99, 2) := by decide +kernel
theorem d_Almanac_growOlder_25 : decode og_c_Almanac_growOlder 25 = .ok (.aload_n 0, 1) := by decide +kernel
theorem d_Almanac_growOlder_26 : decode og_c_Almanac_growOlder 26 = .ok (.getfield 105, 3) := by decide +kernel
theorem d_Almanac_growOlder_29 : decode og_c_Almanac_growOlder 29 = .ok (.iload_n 1, 1) := by decide +kernel
theorem d_Almanac_growOlder_30 : decode og_c_Almanac_growOlder 30 = .ok (.iaload, 1) := by decide +kernel
theorem d_Almanac_growOlder_31 : decode og_c_Almanac_growOlder 31 = .ok (.iconst 1, 1) := by decide +kernel
theorem d_Almanac_growOlder_32 : decode og_c_Almanac_growOlder 32 = .ok (.iadd, 1) := by decide +kernel
theorem d_Almanac_growOlder_33 : decode og_c_Almanac_growOlder 33 = .ok (.invokestatic 48, 3) := by decide +kernel
theorem d_Almanac_growOlder_36 : decode og_c_Almanac_growOlder 36 = .ok (.iastore, 1) := by decide +kernel
theorem d_Almanac_growOlder_37 : decode og_c_Almanac_growOlder 37 = .ok (.iinc 1 1, 3) := by decide +kernel
theorem d_Almanac_growOlder_40 : decode og_c_Almanac_growOlder 40 = .ok (.goto (-38), 3) := by decide +kernel
theorem d_Almanac_growOlder_43 : decode og_c_Almanac_growOlder 43 = .ok (.return_, 1) := by decide +kernel
def m_Almanac_growOlder : og_Dn := og_den [16] 2 2 (og_seq (og_set 1 (og_k 0)) (og_while (og_cc og_rlt (og_loc 1) (og_get 1 (og_loc 0))) (og_if (og_cb (og_call m_Yard_lives [og_loc 0, og_loc 1])) (og_ast 8 (og_fix (fun i => i + 6) (og_loc 0)) (og_loc 1) (og_min (og_k 99) (og_add (og_ald 8 (og_fix (fun i => i + 6) (og_loc 0)) (og_loc 1)) (og_k 1)))) (og_skip)) (og_inc 1 1)))
set_option maxRecDepth 20000 in
theorem ok_Almanac_growOlder : og_MOK og_y_Almanac_growOlder og_c_Almanac_growOlder 2 2 3 [16] m_Almanac_growOlder := og_method (b := 43) (lt' := [(0, 16)]) (by decide +kernel) (by decide) (by decide) (og_sdrop (lt' := [(0, 16), (1, 0)]) (lt2 := [(0, 16)]) (og_sseq (og_istore_n (i := 1) (lt' := [(0, 16), (1, 0)]) (og_iconst (by decide) d_Almanac_growOlder_0) (by rfl) (by decide) (by decide) d_Almanac_growOlder_1) (og_swhile (T := 10) (F := 43) (cp0 := 37) (og_ccn og_n_lt (og_ige (tgt := 43) (og_iload_n (i := 1) (j := 1) (by rfl) (by rfl) d_Almanac_growOlder_2) (og_f_Yard_people_N (og_aload_n (i := 0) (t := 14) (j := 0) (by rfl) (by rfl) d_Almanac_growOlder_3) og_w50 d_Almanac_growOlder_4) d_Almanac_growOlder_7 (by decide))) (og_sif (T := 18) (F := 37) (og_cbeq (tgt := 37) (og_callVz (og_acons (og_aload_n (i := 0) (t := 14) (j := 0) (by rfl) (by rfl) d_Almanac_growOlder_10) (og_acons (og_iload_n (i := 1) (j := 1) (by rfl) (by rfl) d_Almanac_growOlder_11) (og_anil))) (by decide) ok_Yard_lives (v_Yard_lives (by decide)) og_w835 d_Almanac_growOlder_12) d_Almanac_growOlder_15 (by decide)) (og_iastore (N := 8) (og_f_Yard_age_N (og_aload_n (i := 0) (t := 14) (j := 0) (by rfl) (by rfl) d_Almanac_growOlder_18) og_w84 d_Almanac_growOlder_19) (by rfl) (og_iload_n (i := 1) (j := 1) (by rfl) (by rfl) d_Almanac_growOlder_22) (og_imin (og_bipush (by decide) d_Almanac_growOlder_23) (og_iadd (og_iald (N := 8) (og_f_Yard_age_N (og_aload_n (i := 0) (t := 14) (j := 0) (by rfl) (by rfl) d_Almanac_growOlder_25) og_w84 d_Almanac_growOlder_26) (by rfl) (og_iload_n (i := 1) (j := 1) (by rfl) (by rfl) d_Almanac_growOlder_29) d_Almanac_growOlder_30) (og_iconst (by decide) d_Almanac_growOlder_31) d_Almanac_growOlder_32) (by decide) (by decide) og_w870 og_w747 og_w19 og_w748 d_Almanac_growOlder_33) d_Almanac_growOlder_36) (og_sskip)) (og_gS (b' := 2) (og_iinc (j := 1) (lt' := [(0, 16), (1, 0)]) (by rfl) (by decide) (by decide) d_Almanac_growOlder_37) d_Almanac_growOlder_40 (by decide)))) (by decide)) (fun _ => d_Almanac_growOlder_43)
abbrev og_c_Almanac_pass : ByteArray := prog_2_method_2_code
abbrev og_y_Almanac_pass : MethodName := ⟨"OpenGraves$Almanac", "pass", "(LOpenGraves$Script;LOpenGraves$Yard;)I"⟩
theorem v_Almanac_pass {own : String} {idx dep : Nat} (h : 5 + 1 ≤ dep) : og_sV own idx og_y_Almanac_pass og_c_Almanac_pass 4 0 5 dep 6 2 := ⟨⟨5, og_sl_Almanac, og_T_Almanac, 2, rfl, by decide, rfl⟩, og_w828, og_w829, og_w13, og_w830, ⟨by decide +kernel, by decide +kernel, by decide +kernel⟩, h, by decide⟩
theorem d_Almanac_pass_0 : decode og_c_Almanac_pass 0 = .ok (.aload_n 0, 1) := by decide +kernel
theorem d_Almanac_pass_1 : decode og_c_Almanac_pass 1 = .ok (.aload_n 1, 1) := by decide +kernel
theorem d_Almanac_pass_2 : decode og_c_Almanac_pass 2 = .ok (.aload_n 2, 1) := by decide +kernel
theorem d_Almanac_pass_3 : decode og_c_Almanac_pass 3 = .ok (.invokevirtual 19, 3) := by decide +kernel
theorem d_Almanac_pass_6 : decode og_c_Almanac_pass 6 = .ok (.iconst 0, 1) := by decide +kernel
theorem d_Almanac_pass_7 : decode og_c_Almanac_pass 7 = .ok (.istore_n 3, 1) := by decide +kernel
theorem d_Almanac_pass_8 : decode og_c_Almanac_pass 8 = .ok (.aload_n 2, 1) := by decide +kernel
theorem d_Almanac_pass_9 : decode og_c_Almanac_pass 9 = .ok (.invokestatic 23, 3) := by decide +kernel
theorem d_Almanac_pass_12 : decode og_c_Almanac_pass 12 = .ok (.ifCond .eq 15, 3) := by decide +kernel
theorem d_Almanac_pass_15 : decode og_c_Almanac_pass 15 = .ok (.aload_n 0, 1) := by decide +kernel
theorem d_Almanac_pass_16 : decode og_c_Almanac_pass 16 = .ok (.aload_n 1, 1) := by decide +kernel
theorem d_Almanac_pass_17 : decode og_c_Almanac_pass 17 = .ok (.aload_n 2, 1) := by decide +kernel
theorem d_Almanac_pass_18 : decode og_c_Almanac_pass 18 = .ok (.invokevirtual 27, 3) := by decide +kernel
theorem d_Almanac_pass_21 : decode og_c_Almanac_pass 21 = .ok (.aload_n 0, 1) := by decide +kernel
theorem d_Almanac_pass_22 : decode og_c_Almanac_pass 22 = .ok (.aload_n 2, 1) := by decide +kernel
theorem d_Almanac_pass_23 : decode og_c_Almanac_pass 23 = .ok (.invokevirtual 30, 3) := by decide +kernel
theorem d_Almanac_pass_26 : decode og_c_Almanac_pass 26 = .ok (.istore_n 3, 1) := by decide +kernel
theorem d_Almanac_pass_27 : decode og_c_Almanac_pass 27 = .ok (.aload_n 0, 1) := by decide +kernel
theorem d_Almanac_pass_28 : decode og_c_Almanac_pass 28 = .ok (.aload_n 1, 1) := by decide +kernel
theorem d_Almanac_pass_29 : decode og_c_Almanac_pass 29 = .ok (.aload_n 2, 1) := by decide +kernel
theorem d_Almanac_pass_30 : decode og_c_Almanac_pass 30 = .ok (.iload_n 3, 1) := by decide +kernel
theorem d_Almanac_pass_31 : decode og_c_Almanac_pass 31 = .ok (.invokevirtual 34, 3) := by decide +kernel
theorem d_Almanac_pass_34 : decode og_c_Almanac_pass 34 = .ok (.aload_n 2, 1) := by decide +kernel
theorem d_Almanac_pass_35 : decode og_c_Almanac_pass 35 = .ok (.getfield 38, 3) := by decide +kernel
theorem d_Almanac_pass_38 : decode og_c_Almanac_pass 38 = .ok (.bipush 12, 2) := by decide +kernel
theorem d_Almanac_pass_40 : decode og_c_Almanac_pass 40 = .ok (.irem, 1) := by decide +kernel
theorem d_Almanac_pass_41 : decode og_c_Almanac_pass 41 = .ok (.bipush 11, 2) := by decide +kernel
theorem d_Almanac_pass_43 : decode og_c_Almanac_pass 43 = .ok (.if_icmp .ne 7, 3) := by decide +kernel
theorem d_Almanac_pass_46 : decode og_c_Almanac_pass 46 = .ok (.aload_n 2, 1) := by decide +kernel
theorem d_Almanac_pass_47 : decode og_c_Almanac_pass 47 = .ok (.invokestatic 44, 3) := by decide +kernel
theorem d_Almanac_pass_50 : decode og_c_Almanac_pass 50 = .ok (.aload_n 2, 1) := by decide +kernel
theorem d_Almanac_pass_51 : decode og_c_Almanac_pass 51 = .ok (.sipush 999, 3) := by decide +kernel
theorem d_Almanac_pass_54 : decode og_c_Almanac_pass 54 = .ok (.aload_n 2, 1) := by decide +kernel
theorem d_Almanac_pass_55 : decode og_c_Almanac_pass 55 = .ok (.getfield 38, 3) := by decide +kernel
theorem d_Almanac_pass_58 : decode og_c_Almanac_pass 58 = .ok (.iconst 1, 1) := by decide +kernel
theorem d_Almanac_pass_59 : decode og_c_Almanac_pass 59 = .ok (.iadd, 1) := by decide +kernel
theorem d_Almanac_pass_60 : decode og_c_Almanac_pass 60 = .ok (.invokestatic 48, 3) := by decide +kernel
theorem d_Almanac_pass_63 : decode og_c_Almanac_pass 63 = .ok (.putfield 38, 3) := by decide +kernel
theorem d_Almanac_pass_66 : decode og_c_Almanac_pass 66 = .ok (.iload_n 3, 1) := by decide +kernel
theorem d_Almanac_pass_67 : decode og_c_Almanac_pass 67 = .ok (.ireturn, 1) := by decide +kernel
def m_Almanac_pass : og_Dn := og_den [10, 15, 16] 4 0 (og_seq (og_exp (og_call m_Almanac_comeForward [og_loc 0, og_loc 1, og_loc 2])) (og_seq (og_set 3 (og_k 0)) (og_cut (og_if (og_cb (og_call m_Almanac_comeNearer [og_loc 2])) (og_seq (og_exp (og_call m_Almanac_weigh [og_loc 0, og_loc 1, og_loc 2])) (og_set 3 (og_call m_Almanac_takeDue [og_loc 0, og_loc 2]))) (og_skip)) (og_seq (og_exp (og_call m_Almanac_changeHearts [og_loc 0, og_loc 1, og_loc 2, og_loc 3])) (og_cut (og_if (og_cc og_req (og_rem (og_get 2 (og_loc 2)) (og_k 12)) (og_k 11)) (og_exp (og_call m_Almanac_growOlder [og_loc 2])) (og_skip)) (og_seq (og_putf 2 (og_loc 2) (og_min (og_k 999) (og_add (og_get 2 (og_loc 2)) (og_k 1)))) (og_ret (og_loc 3))))))))
set_option maxRecDepth 20000 in
theorem ok_Almanac_pass : og_MOK og_y_Almanac_pass og_c_Almanac_pass 4 0 5 [10, 15, 16] m_Almanac_pass := og_method (b := 0) (lt' := []) (by decide +kernel) (by decide) (by decide) (og_sseq (og_callVv (og_acons (og_aload_n (i := 0) (t := 8) (j := 0) (by rfl) (by rfl) d_Almanac_pass_0) (og_acons (og_aload_n (i := 1) (t := 13) (j := 1) (by rfl) (by rfl) d_Almanac_pass_1) (og_acons (og_aload_n (i := 2) (t := 14) (j := 2) (by rfl) (by rfl) d_Almanac_pass_2) (og_anil)))) ok_Almanac_comeForward (v_Almanac_comeForward (by decide)) og_w831 d_Almanac_pass_3) (og_sseq (og_istore_n (i := 3) (lt' := [(0, 10), (1, 15), (2, 16), (3, 0)]) (og_iconst (by decide) d_Almanac_pass_6) (by rfl) (by decide) (by decide) d_Almanac_pass_7) (og_scut (og_sif (T := 15) (F := 27) (og_cbeq (tgt := 27) (og_callSz (og_acons (og_aload_n (i := 2) (t := 14) (j := 2) (by rfl) (by rfl) d_Almanac_pass_8) (og_anil)) (by decide) ok_Almanac_comeNearer (v_Almanac_comeNearer (by decide)) og_w844 d_Almanac_pass_9) d_Almanac_pass_12 (by decide)) (og_sseq (og_callVv (og_acons (og_aload_n (i := 0) (t := 8) (j := 0) (by rfl) (by rfl) d_Almanac_pass_15) (og_acons (og_aload_n (i := 1) (t := 13) (j := 1) (by rfl) (by rfl) d_Almanac_pass_16) (og_acons (og_aload_n (i := 2) (t := 14) (j := 2) (by rfl) (by rfl) d_Almanac_pass_17) (og_anil)))) ok_Almanac_weigh (v_Almanac_weigh (by decide)) og_w849 d_Almanac_pass_18) (og_istore_n (i := 3) (lt' := [(0, 10), (1, 15), (2, 16), (3, 0)]) (og_callVi (og_acons (og_aload_n (i := 0) (t := 8) (j := 0) (by rfl) (by rfl) d_Almanac_pass_21) (og_acons (og_aload_n (i := 2) (t := 14) (j := 2) (by rfl) (by rfl) d_Almanac_pass_22) (og_anil))) (by decide) ok_Almanac_takeDue (v_Almanac_takeDue (by decide)) og_w853 d_Almanac_pass_23) (by rfl) (by decide) (by decide) d_Almanac_pass_26)) (og_sskip)) (og_sseq (og_callVv (og_acons (og_aload_n (i := 0) (t := 8) (j := 0) (by rfl) (by rfl) d_Almanac_pass_27) (og_acons (og_aload_n (i := 1) (t := 13) (j := 1) (by rfl) (by rfl) d_Almanac_pass_28) (og_acons (og_aload_n (i := 2) (t := 14) (j := 2) (by rfl) (by rfl) d_Almanac_pass_29) (og_acons (og_iload_n (i := 3) (j := 3) (by rfl) (by rfl) d_Almanac_pass_30) (og_anil))))) ok_Almanac_changeHearts (v_Almanac_changeHearts (by decide)) og_w862 d_Almanac_pass_31) (og_scut (og_sif (T := 46) (F := 50) (og_ccn og_n_eq (og_ine (tgt := 50) (og_irem (og_f_Yard_month_N (og_aload_n (i := 2) (t := 14) (j := 2) (by rfl) (by rfl) d_Almanac_pass_34) og_w55 d_Almanac_pass_35) (og_bipush (by decide) d_Almanac_pass_38) d_Almanac_pass_40) (og_bipush (by decide) d_Almanac_pass_41) d_Almanac_pass_43 (by decide))) (og_callSv (og_acons (og_aload_n (i := 2) (t := 14) (j := 2) (by rfl) (by rfl) d_Almanac_pass_46) (og_anil)) ok_Almanac_growOlder (v_Almanac_growOlder (by decide)) og_w867 d_Almanac_pass_47) (og_sskip)) (og_sseq (og_p_Yard_month_N (og_aload_n (i := 2) (t := 14) (j := 2) (by rfl) (by rfl) d_Almanac_pass_50) (og_imin (og_sipush (by decide) d_Almanac_pass_51) (og_iadd (og_f_Yard_month_N (og_aload_n (i := 2) (t := 14) (j := 2) (by rfl) (by rfl) d_Almanac_pass_54) og_w55 d_Almanac_pass_55) (og_iconst (by decide) d_Almanac_pass_58) d_Almanac_pass_59) (by decide) (by decide) og_w870 og_w747 og_w19 og_w748 d_Almanac_pass_60) og_w55 d_Almanac_pass_63) (og_sreti (og_iload_n (i := 3) (j := 3) (by rfl) (by rfl) d_Almanac_pass_66) d_Almanac_pass_67))))))) (fun h => by cases h)
abbrev og_c_Outlook_takenBehind : ByteArray := prog_4_method_3_code
abbrev og_y_Outlook_takenBehind : MethodName := ⟨"OpenGraves$Outlook", "takenBehind", "(LOpenGraves$Script;I)I"⟩
theorem v_Outlook_takenBehind {own : String} {idx dep : Nat} (h : 6 + 1 ≤ dep) : og_sV own idx og_y_Outlook_takenBehind og_c_Outlook_takenBehind 5 0 6 dep 7 2 := ⟨⟨6, og_sl_Outlook, og_T_Outlook, 9, rfl, by decide, rfl⟩, og_w824, (og_memP (⟨"OpenGraves$Outlook", "takenBehind", "(LOpenGraves$Script;I)I"⟩, 9) (List.mem_of_getElem? (i := 27) (by decide +kernel))), og_w14, og_w825, ⟨by decide +kernel, by decide +kernel, by decide +kernel⟩, h, by decide⟩
theorem d_Outlook_takenBehind_0 : decode og_c_Outlook_takenBehind 0 = .ok (.iconst 0, 1) := by decide +kernel
theorem d_Outlook_takenBehind_1 : decode og_c_Outlook_takenBehind 1 = .ok (.istore_n 3, 1) := by decide +kernel
theorem d_Outlook_takenBehind_2 : decode og_c_Outlook_takenBehind 2 = .ok (.iconst 0, 1) := by decide +kernel
theorem d_Outlook_takenBehind_3 : decode og_c_Outlook_takenBehind 3 = .ok (.istore 4, 2) := by decide +kernel
theorem d_Outlook_takenBehind_5 : decode og_c_Outlook_takenBehind 5 = .ok (.iload 4, 2) := by decide +kernel
theorem d_Outlook_takenBehind_7 : decode og_c_Outlook_takenBehind 7 = .ok (.iload_n 2, 1) := by decide +kernel
theorem d_Outlook_takenBehind_8 : decode og_c_Outlook_takenBehind 8 = .ok (.if_icmp .ge 34, 3) := by decide +kernel
theorem d_Outlook_takenBehind_11 : decode og_c_Outlook_takenBehind 11 = .ok (.aload_n 0, 1) := by decide +kernel
theorem d_Outlook_takenBehind_12 : decode og_c_Outlook_takenBehind 12 = .ok (.getfield 22, 3) := by decide +kernel
theorem d_Outlook_takenBehind_15 : decode og_c_Outlook_takenBehind 15 = .ok (.invokevirtual 50, 3) := by decide +kernel
theorem d_Outlook_takenBehind_18 : decode og_c_Outlook_takenBehind 18 = .ok (.ifCond .le 24, 3) := by decide +kernel
theorem d_Outlook_takenBehind_21 : decode og_c_Outlook_takenBehind 21 = .ok (.iload_n 3, 1) := by decide +kernel
theorem d_Outlook_takenBehind_22 : decode og_c_Outlook_takenBehind 22 = .ok (.aload_n 0, 1) := by decide +kernel
theorem d_Outlook_takenBehind_23 : decode og_c_Outlook_takenBehind 23 = .ok (.getfield 9, 3) := by decide +kernel
theorem d_Outlook_takenBehind_26 : decode og_c_Outlook_takenBehind 26 = .ok (.aload_n 1, 1) := by decide +kernel
theorem d_Outlook_takenBehind_27 : decode og_c_Outlook_takenBehind 27 = .ok (.aload_n 0, 1) := by decide +kernel
theorem d_Outlook_takenBehind_28 : decode og_c_Outlook_takenBehind 28 = .ok (.getfield 22, 3) := by decide +kernel
theorem d_Outlook_takenBehind_31 : decode og_c_Outlook_takenBehind 31 = .ok (.invokevirtual 54, 3) := by decide +kernel
theorem d_Outlook_takenBehind_34 : decode og_c_Outlook_takenBehind 34 = .ok (.iadd, 1) := by decide +kernel
theorem d_Outlook_takenBehind_35 : decode og_c_Outlook_takenBehind 35 = .ok (.istore_n 3, 1) := by decide +kernel
theorem d_Outlook_takenBehind_36 : decode og_c_Outlook_takenBehind 36 = .ok (.iinc 4 1, 3) := by decide +kernel
theorem d_Outlook_takenBehind_39 : decode og_c_Outlook_takenBehind 39 = .ok (.goto (-34), 3) := by decide +kernel
theorem d_Outlook_takenBehind_42 : decode og_c_Outlook_takenBehind 42 = .ok (.iload_n 3, 1) := by decide +kernel
theorem d_Outlook_takenBehind_43 : decode og_c_Outlook_takenBehind 43 = .ok (.ireturn, 1) := by decide +kernel
def m_Outlook_takenBehind : og_Dn := og_den [11, 15, 0] 5 0 (og_seq (og_set 3 (og_k 0)) (og_cut (og_seq (og_set 4 (og_k 0)) (og_while (og_and (og_cc og_rlt (og_loc 4) (og_loc 2)) (og_cc og_rgt (og_call m_Yard_countAsking [og_fix (fun _ => 110) (og_loc 0)]) (og_k 0))) (og_set 3 (og_add (og_loc 3) (og_call m_Almanac_pass [og_fix (fun _ => 8) (og_loc 0), og_loc 1, og_fix (fun _ => 110) (og_loc 0)]))) (og_inc 4 1))) (og_ret (og_loc 3))))
set_option maxRecDepth 20000 in
theorem ok_Outlook_takenBehind : og_MOK og_y_Outlook_takenBehind og_c_Outlook_takenBehind 5 0 6 [11, 15, 0] m_Outlook_takenBehind := og_method (b := 0) (lt' := []) (by decide +kernel) (by decide) (by decide) (og_sseq (og_istore_n (i := 3) (lt' := [(0, 11), (1, 15), (2, 0), (3, 0)]) (og_iconst (by decide) d_Outlook_takenBehind_0) (by rfl) (by decide) (by decide) d_Outlook_takenBehind_1) (og_scut (og_sdrop (lt' := [(0, 11), (1, 15), (2, 0), (3, 0), (4, 0)]) (lt2 := [(0, 11), (1, 15), (2, 0), (3, 0)]) (og_sseq (og_istore (i := 4) (lt' := [(0, 11), (1, 15), (2, 0), (3, 0), (4, 0)]) (og_iconst (by decide) d_Outlook_takenBehind_2) (by decide) (by decide) d_Outlook_takenBehind_3) (og_swhile (T := 21) (F := 42) (cp0 := 36) (og_cand (og_ccn og_n_lt (og_ige (tgt := 42) (og_iload (i := 4) (j := 4) (by rfl) d_Outlook_takenBehind_5) (og_iload_n (i := 2) (j := 2) (by rfl) (by rfl) d_Outlook_takenBehind_7) d_Outlook_takenBehind_8 (by decide))) (og_ccn og_n_gt (og_zle (tgt := 42) (og_callVi (og_acons (og_f_Outlook_trial (og_aload_n (i := 0) (t := 9) (j := 0) (by rfl) (by rfl) d_Outlook_takenBehind_11) og_w319 d_Outlook_takenBehind_12) (og_anil)) (by decide) ok_Yard_countAsking (v_Yard_countAsking (by decide)) og_w826 d_Outlook_takenBehind_15) d_Outlook_takenBehind_18 (by decide)))) (og_istore_n (i := 3) (lt' := [(0, 11), (1, 15), (2, 0), (3, 0), (4, 0)]) (og_iadd (og_iload_n (i := 3) (j := 3) (by rfl) (by rfl) d_Outlook_takenBehind_21) (og_callVi (og_acons (og_f_Outlook_almanac (og_aload_n (i := 0) (t := 9) (j := 0) (by rfl) (by rfl) d_Outlook_takenBehind_22) og_w317 d_Outlook_takenBehind_23) (og_acons (og_aload_n (i := 1) (t := 13) (j := 1) (by rfl) (by rfl) d_Outlook_takenBehind_26) (og_acons (og_f_Outlook_trial (og_aload_n (i := 0) (t := 9) (j := 0) (by rfl) (by rfl) d_Outlook_takenBehind_27) og_w319 d_Outlook_takenBehind_28) (og_anil)))) (by decide) ok_Almanac_pass (v_Almanac_pass (by decide)) og_w827 d_Outlook_takenBehind_31) d_Outlook_takenBehind_34) (by rfl) (by decide) (by decide) d_Outlook_takenBehind_35) (og_gS (b' := 5) (og_iinc (j := 4) (lt' := [(0, 11), (1, 15), (2, 0), (3, 0), (4, 0)]) (by rfl) (by decide) (by decide) d_Outlook_takenBehind_36) d_Outlook_takenBehind_39 (by decide)))) (by decide)) (og_sreti (og_iload_n (i := 3) (j := 3) (by rfl) (by rfl) d_Outlook_takenBehind_42) d_Outlook_takenBehind_43))) (fun h => by cases h)
abbrev og_c_Outlook_takenIn : ByteArray := prog_4_method_2_code
abbrev og_y_Outlook_takenIn : MethodName := ⟨"OpenGraves$Outlook", "takenIn", "(LOpenGraves$Script;LOpenGraves$Yard;I)I"⟩
theorem v_Outlook_takenIn {own : String} {idx dep : Nat} (h : 7 + 1 ≤ dep) : og_sV own idx og_y_Outlook_takenIn og_c_Outlook_takenIn 4 0 7 dep 7 3 := ⟨⟨6, og_sl_Outlook, og_T_Outlook, 9, rfl, by decide, rfl⟩, og_w818, og_w819, og_w14, og_w820, ⟨by decide +kernel, by decide +kernel, by decide +kernel⟩, h, by decide⟩
theorem d_Outlook_takenIn_0 : decode og_c_Outlook_takenIn 0 = .ok (.aload_n 0, 1) := by decide +kernel
theorem d_Outlook_takenIn_1 : decode og_c_Outlook_takenIn 1 = .ok (.getfield 22, 3) := by decide +kernel
theorem d_Outlook_takenIn_4 : decode og_c_Outlook_takenIn 4 = .ok (.aload_n 2, 1) := by decide +kernel
theorem d_Outlook_takenIn_5 : decode og_c_Outlook_takenIn 5 = .ok (.invokevirtual 42, 3) := by decide +kernel
theorem d_Outlook_takenIn_8 : decode og_c_Outlook_takenIn 8 = .ok (.aload_n 0, 1) := by decide +kernel
theorem d_Outlook_takenIn_9 : decode og_c_Outlook_takenIn 9 = .ok (.aload_n 1, 1) := by decide +kernel
theorem d_Outlook_takenIn_10 : decode og_c_Outlook_takenIn 10 = .ok (.iload_n 3, 1) := by decide +kernel
theorem d_Outlook_takenIn_11 : decode og_c_Outlook_takenIn 11 = .ok (.invokevirtual 46, 3) := by decide +kernel
theorem d_Outlook_takenIn_14 : decode og_c_Outlook_takenIn 14 = .ok (.ireturn, 1) := by decide +kernel
def m_Outlook_takenIn : og_Dn := og_den [11, 15, 16, 0] 4 0 (og_seq (og_exp (og_call m_Yard_become [og_fix (fun _ => 110) (og_loc 0), og_loc 2])) (og_ret (og_call m_Outlook_takenBehind [og_loc 0, og_loc 1, og_loc 3])))
set_option maxRecDepth 20000 in
theorem ok_Outlook_takenIn : og_MOK og_y_Outlook_takenIn og_c_Outlook_takenIn 4 0 7 [11, 15, 16, 0] m_Outlook_takenIn := og_method (b := 0) (lt' := []) (by decide +kernel) (by decide) (by decide) (og_sseq (og_callVv (og_acons (og_f_Outlook_trial (og_aload_n (i := 0) (t := 9) (j := 0) (by rfl) (by rfl) d_Outlook_takenIn_0) og_w319 d_Outlook_takenIn_1) (og_acons (og_aload_n (i := 2) (t := 14) (j := 2) (by rfl) (by rfl) d_Outlook_takenIn_4) (og_anil))) ok_Yard_become (v_Yard_become (by decide)) og_w821 d_Outlook_takenIn_5) (og_sreti (og_callVi (og_acons (og_aload_n (i := 0) (t := 9) (j := 0) (by rfl) (by rfl) d_Outlook_takenIn_8) (og_acons (og_aload_n (i := 1) (t := 13) (j := 1) (by rfl) (by rfl) d_Outlook_takenIn_9) (og_acons (og_iload_n (i := 3) (j := 3) (by rfl) (by rfl) d_Outlook_takenIn_10) (og_anil)))) (by decide) ok_Outlook_takenBehind (v_Outlook_takenBehind (by decide)) og_w822 d_Outlook_takenIn_11) d_Outlook_takenIn_14)) (fun h => by cases h)
