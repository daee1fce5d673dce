abbrev og_c_Model_qIsBracket : ByteArray := prog_14_method_106_code
abbrev og_y_Model_qIsBracket : MethodName := ⟨"OpenGravesModel", "qIsBracket", "(I)Z"⟩
theorem v_Model_qIsBracket {dep : Nat} (h : 1 + 1 ≤ dep) : og_sS og_y_Model_qIsBracket og_c_Model_qIsBracket 1 3 1 dep 1 := ⟨og_w1599, og_w17, og_w1600, ⟨by decide +kernel, by decide +kernel, by decide +kernel⟩, h, by decide⟩
theorem d_Model_qIsBracket_0 : decode og_c_Model_qIsBracket 0 = .ok (.iload_n 0, 1) := by decide +kernel
theorem d_Model_qIsBracket_1 : decode og_c_Model_qIsBracket 1 = .ok (.bipush 20, 2) := by decide +kernel
theorem d_Model_qIsBracket_3 : decode og_c_Model_qIsBracket 3 = .ok (.if_icmp .lt 13, 3) := by decide +kernel
theorem d_Model_qIsBracket_6 : decode og_c_Model_qIsBracket 6 = .ok (.iload_n 0, 1) := by decide +kernel
theorem d_Model_qIsBracket_7 : decode og_c_Model_qIsBracket 7 = .ok (.bipush 24, 2) := by decide +kernel
theorem d_Model_qIsBracket_9 : decode og_c_Model_qIsBracket 9 = .ok (.if_icmp .gt 7, 3) := by decide +kernel
theorem d_Model_qIsBracket_12 : decode og_c_Model_qIsBracket 12 = .ok (.iconst 1, 1) := by decide +kernel
theorem d_Model_qIsBracket_13 : decode og_c_Model_qIsBracket 13 = .ok (.goto 4, 3) := by decide +kernel
theorem d_Model_qIsBracket_16 : decode og_c_Model_qIsBracket 16 = .ok (.iconst 0, 1) := by decide +kernel
theorem d_Model_qIsBracket_17 : decode og_c_Model_qIsBracket 17 = .ok (.ireturn, 1) := by decide +kernel
def m_Model_qIsBracket : og_Dn := og_den [0] 1 3 (og_retz (og_ec (og_and (og_cc og_rge (og_loc 0) (og_k 20)) (og_cc og_rle (og_loc 0) (og_k 24)))))
set_option maxRecDepth 20000 in
theorem ok_Model_qIsBracket : og_MOK og_y_Model_qIsBracket og_c_Model_qIsBracket 1 3 1 [0] m_Model_qIsBracket := og_method (b := 0) (lt' := []) (by decide +kernel) (by decide) (by decide) (og_sretz (og_econd (b := 0) (og_cand (og_ccn og_n_ge (og_ilt (tgt := 16) (og_iload_n (i := 0) (j := 0) (by rfl) (by rfl) d_Model_qIsBracket_0) (og_bipush (by decide) d_Model_qIsBracket_1) d_Model_qIsBracket_3 (by decide))) (og_ccn og_n_le (og_igt (tgt := 16) (og_iload_n (i := 0) (j := 0) (by rfl) (by rfl) d_Model_qIsBracket_6) (og_bipush (by decide) d_Model_qIsBracket_7) d_Model_qIsBracket_9 (by decide)))) d_Model_qIsBracket_12 d_Model_qIsBracket_13 (by decide) d_Model_qIsBracket_16 (by rfl)) d_Model_qIsBracket_17) (fun h => by cases h)
abbrev og_c_Model_qBracket : ByteArray := prog_14_method_107_code
abbrev og_y_Model_qBracket : MethodName := ⟨"OpenGravesModel", "qBracket", "()I"⟩
theorem v_Model_qBracket {own : String} {idx dep : Nat} (h : 2 + 1 ≤ dep) : og_sV own idx og_y_Model_qBracket og_c_Model_qBracket 2 0 2 dep 13 0 := ⟨⟨12, og_sl_Model, og_T_Model, 102, rfl, by decide, rfl⟩, og_w1596, (og_memP (⟨"OpenGravesModel", "qBracket", "()I"⟩, 102) (List.mem_of_getElem? (i := 80) (by decide +kernel))), og_w17, og_w1597, ⟨by decide +kernel, by decide +kernel, by decide +kernel⟩, h, by decide⟩
theorem d_Model_qBracket_0 : decode og_c_Model_qBracket 0 = .ok (.aload_n 0, 1) := by decide +kernel
theorem d_Model_qBracket_1 : decode og_c_Model_qBracket 1 = .ok (.getfield 329, 3) := by decide +kernel
theorem d_Model_qBracket_4 : decode og_c_Model_qBracket 4 = .ok (.iconst 1, 1) := by decide +kernel
theorem d_Model_qBracket_5 : decode og_c_Model_qBracket 5 = .ok (.isub, 1) := by decide +kernel
theorem d_Model_qBracket_6 : decode og_c_Model_qBracket 6 = .ok (.istore_n 1, 1) := by decide +kernel
theorem d_Model_qBracket_7 : decode og_c_Model_qBracket 7 = .ok (.iload_n 1, 1) := by decide +kernel
theorem d_Model_qBracket_8 : decode og_c_Model_qBracket 8 = .ok (.aload_n 0, 1) := by decide +kernel
theorem d_Model_qBracket_9 : decode og_c_Model_qBracket 9 = .ok (.getfield 335, 3) := by decide +kernel
theorem d_Model_qBracket_12 : decode og_c_Model_qBracket 12 = .ok (.if_icmp .lt 21, 3) := by decide +kernel
theorem d_Model_qBracket_15 : decode og_c_Model_qBracket 15 = .ok (.aload_n 0, 1) := by decide +kernel
theorem d_Model_qBracket_16 : decode og_c_Model_qBracket 16 = .ok (.getfield 230, 3) := by decide +kernel
theorem d_Model_qBracket_19 : decode og_c_Model_qBracket 19 = .ok (.iload_n 1, 1) := by decide +kernel
theorem d_Model_qBracket_20 : decode og_c_Model_qBracket 20 = .ok (.iaload, 1) := by decide +kernel
theorem d_Model_qBracket_21 : decode og_c_Model_qBracket 21 = .ok (.invokestatic 591, 3) := by decide +kernel
theorem d_Model_qBracket_24 : decode og_c_Model_qBracket 24 = .ok (.ifCond .ne 9, 3) := by decide +kernel
theorem d_Model_qBracket_27 : decode og_c_Model_qBracket 27 = .ok (.iinc 1 (-1), 3) := by decide +kernel
theorem d_Model_qBracket_30 : decode og_c_Model_qBracket 30 = .ok (.goto (-23), 3) := by decide +kernel
theorem d_Model_qBracket_33 : decode og_c_Model_qBracket 33 = .ok (.iload_n 1, 1) := by decide +kernel
theorem d_Model_qBracket_34 : decode og_c_Model_qBracket 34 = .ok (.aload_n 0, 1) := by decide +kernel
theorem d_Model_qBracket_35 : decode og_c_Model_qBracket 35 = .ok (.getfield 335, 3) := by decide +kernel
theorem d_Model_qBracket_38 : decode og_c_Model_qBracket 38 = .ok (.if_icmp .lt 12, 3) := by decide +kernel
theorem d_Model_qBracket_41 : decode og_c_Model_qBracket 41 = .ok (.aload_n 0, 1) := by decide +kernel
theorem d_Model_qBracket_42 : decode og_c_Model_qBracket 42 = .ok (.getfield 230, 3) := by decide +kernel
theorem d_Model_qBracket_45 : decode og_c_Model_qBracket 45 = .ok (.iload_n 1, 1) := by decide +kernel
theorem d_Model_qBracket_46 : decode og_c_Model_qBracket 46 = .ok (.iaload, 1) := by decide +kernel
theorem d_Model_qBracket_47 : decode og_c_Model_qBracket 47 = .ok (.goto 4, 3) := by decide +kernel
theorem d_Model_qBracket_50 : decode og_c_Model_qBracket 50 = .ok (.iconst (-1), 1) := by decide +kernel
theorem d_Model_qBracket_51 : decode og_c_Model_qBracket 51 = .ok (.ireturn, 1) := by decide +kernel
def m_Model_qBracket : og_Dn := og_den [17] 2 0 (og_seq (og_set 1 (og_sub (og_get 93 (og_loc 0)) (og_k 1))) (og_cut (og_while (og_and (og_cc og_rge (og_loc 1) (og_get 95 (og_loc 0))) (og_not (og_cb (og_call m_Model_qIsBracket [og_ald 1700 (og_fix (fun _ => 1071) (og_loc 0)) (og_loc 1)])))) (og_inc 1 (-1)) (og_skip)) (og_ret (og_ei (og_cc og_rge (og_loc 1) (og_get 95 (og_loc 0))) (og_ald 1700 (og_fix (fun _ => 1071) (og_loc 0)) (og_loc 1)) (og_k (-1))))))
set_option maxRecDepth 20000 in
theorem ok_Model_qBracket : og_MOK og_y_Model_qBracket og_c_Model_qBracket 2 0 2 [17] m_Model_qBracket := og_method (b := 0) (lt' := []) (by decide +kernel) (by decide) (by decide) (og_sseq (og_istore_n (i := 1) (lt' := [(0, 17), (1, 0)]) (og_isub (og_f_Model_qWaits (og_aload_n (i := 0) (t := 15) (j := 0) (by rfl) (by rfl) d_Model_qBracket_0) og_w1236 d_Model_qBracket_1) (og_iconst (by decide) d_Model_qBracket_4) d_Model_qBracket_5) (by rfl) (by decide) (by decide) d_Model_qBracket_6) (og_scut (og_swhile (T := 27) (F := 33) (cp0 := 7) (og_cand (og_ccn og_n_ge (og_ilt (tgt := 33) (og_iload_n (i := 1) (j := 1) (by rfl) (by rfl) d_Model_qBracket_7) (og_f_Model_qBase (og_aload_n (i := 0) (t := 15) (j := 0) (by rfl) (by rfl) d_Model_qBracket_8) og_w1238 d_Model_qBracket_9) d_Model_qBracket_12 (by decide))) (og_cnot (og_cbne (tgt := 33) (og_callSz (og_acons (og_iald (N := 1700) (og_f_Model_qWait (og_aload_n (i := 0) (t := 15) (j := 0) (by rfl) (by rfl) d_Model_qBracket_15) og_w1235 d_Model_qBracket_16) (by rfl) (og_iload_n (i := 1) (j := 1) (by rfl) (by rfl) d_Model_qBracket_19) d_Model_qBracket_20) (og_anil)) (by decide) ok_Model_qIsBracket (v_Model_qIsBracket (by decide)) og_w1598 d_Model_qBracket_21) d_Model_qBracket_24 (by decide)))) (og_gS (b' := 7) (og_iinc (j := 1) (lt' := [(0, 17), (1, 0)]) (by rfl) (by decide) (by decide) d_Model_qBracket_27) d_Model_qBracket_30 (by decide)) (og_sskip)) (og_sreti (og_eite (og_ccn og_n_ge (og_ilt (tgt := 50) (og_iload_n (i := 1) (j := 1) (by rfl) (by rfl) d_Model_qBracket_33) (og_f_Model_qBase (og_aload_n (i := 0) (t := 15) (j := 0) (by rfl) (by rfl) d_Model_qBracket_34) og_w1238 d_Model_qBracket_35) d_Model_qBracket_38 (by decide))) (og_iald (N := 1700) (og_f_Model_qWait (og_aload_n (i := 0) (t := 15) (j := 0) (by rfl) (by rfl) d_Model_qBracket_41) og_w1235 d_Model_qBracket_42) (by rfl) (og_iload_n (i := 1) (j := 1) (by rfl) (by rfl) d_Model_qBracket_45) d_Model_qBracket_46) d_Model_qBracket_47 (by decide) (og_iconst (by decide) d_Model_qBracket_50)) d_Model_qBracket_51))) (fun h => by cases h)
abbrev og_c_Model_qDropsToBracket : ByteArray := prog_14_method_108_code
abbrev og_y_Model_qDropsToBracket : MethodName := ⟨"OpenGravesModel", "qDropsToBracket", "()V"⟩
theorem v_Model_qDropsToBracket {own : String} {idx dep : Nat} (h : 3 + 1 ≤ dep) : og_sV own idx og_y_Model_qDropsToBracket og_c_Model_qDropsToBracket 1 2 3 dep 13 0 := ⟨⟨12, og_sl_Model, og_T_Model, 102, rfl, by decide, rfl⟩, og_w1603, (og_memP (⟨"OpenGravesModel", "qDropsToBracket", "()V"⟩, 102) (List.mem_of_getElem? (i := 81) (by decide +kernel))), og_w17, og_w1604, ⟨by decide +kernel, by decide +kernel, by decide +kernel⟩, h, by decide⟩
theorem d_Model_qDropsToBracket_0 : decode og_c_Model_qDropsToBracket 0 = .ok (.aload_n 0, 1) := by decide +kernel
theorem d_Model_qDropsToBracket_1 : decode og_c_Model_qDropsToBracket 1 = .ok (.getfield 329, 3) := by decide +kernel
theorem d_Model_qDropsToBracket_4 : decode og_c_Model_qDropsToBracket 4 = .ok (.aload_n 0, 1) := by decide +kernel
theorem d_Model_qDropsToBracket_5 : decode og_c_Model_qDropsToBracket 5 = .ok (.getfield 335, 3) := by decide +kernel
theorem d_Model_qDropsToBracket_8 : decode og_c_Model_qDropsToBracket 8 = .ok (.if_icmp .le 27, 3) := by decide +kernel
theorem d_Model_qDropsToBracket_11 : decode og_c_Model_qDropsToBracket 11 = .ok (.aload_n 0, 1) := by decide +kernel
theorem d_Model_qDropsToBracket_12 : decode og_c_Model_qDropsToBracket 12 = .ok (.getfield 230, 3) := by decide +kernel
theorem d_Model_qDropsToBracket_15 : decode og_c_Model_qDropsToBracket 15 = .ok (.aload_n 0, 1) := by decide +kernel
theorem d_Model_qDropsToBracket_16 : decode og_c_Model_qDropsToBracket 16 = .ok (.getfield 329, 3) := by decide +kernel
theorem d_Model_qDropsToBracket_19 : decode og_c_Model_qDropsToBracket 19 = .ok (.iconst 1, 1) := by decide +kernel
theorem d_Model_qDropsToBracket_20 : decode og_c_Model_qDropsToBracket 20 = .ok (.isub, 1) := by decide +kernel
theorem d_Model_qDropsToBracket_21 : decode og_c_Model_qDropsToBracket 21 = .ok (.iaload, 1) := by decide +kernel
theorem d_Model_qDropsToBracket_22 : decode og_c_Model_qDropsToBracket 22 = .ok (.invokestatic 591, 3) := by decide +kernel
theorem d_Model_qDropsToBracket_25 : decode og_c_Model_qDropsToBracket 25 = .ok (.ifCond .ne 10, 3) := by decide +kernel
theorem d_Model_qDropsToBracket_28 : decode og_c_Model_qDropsToBracket 28 = .ok (.aload_n 0, 1) := by decide +kernel
theorem d_Model_qDropsToBracket_29 : decode og_c_Model_qDropsToBracket 29 = .ok (.invokevirtual 594, 3) := by decide +kernel
theorem d_Model_qDropsToBracket_32 : decode og_c_Model_qDropsToBracket 32 = .ok (.goto (-32), 3) := by decide +kernel
theorem d_Model_qDropsToBracket_35 : decode og_c_Model_qDropsToBracket 35 = .ok (.return_, 1) := by decide +kernel
def m_Model_qDropsToBracket : og_Dn := og_den [17] 1 2 (og_while (og_and (og_cc og_rgt (og_get 93 (og_loc 0)) (og_get 95 (og_loc 0))) (og_not (og_cb (og_call m_Model_qIsBracket [og_ald 1700 (og_fix (fun _ => 1071) (og_loc 0)) (og_sub (og_get 93 (og_loc 0)) (og_k 1))])))) (og_exp (og_call m_Model_qDrops [og_loc 0])) (og_skip))
set_option maxRecDepth 20000 in
theorem ok_Model_qDropsToBracket : og_MOK og_y_Model_qDropsToBracket og_c_Model_qDropsToBracket 1 2 3 [17] m_Model_qDropsToBracket := og_method (b := 35) (lt' := [(0, 17)]) (by decide +kernel) (by decide) (by decide) (og_swhile (T := 28) (F := 35) (cp0 := 0) (og_cand (og_ccn og_n_gt (og_ile (tgt := 35) (og_f_Model_qWaits (og_aload_n (i := 0) (t := 15) (j := 0) (by rfl) (by rfl) d_Model_qDropsToBracket_0) og_w1236 d_Model_qDropsToBracket_1) (og_f_Model_qBase (og_aload_n (i := 0) (t := 15) (j := 0) (by rfl) (by rfl) d_Model_qDropsToBracket_4) og_w1238 d_Model_qDropsToBracket_5) d_Model_qDropsToBracket_8 (by decide))) (og_cnot (og_cbne (tgt := 35) (og_callSz (og_acons (og_iald (N := 1700) (og_f_Model_qWait (og_aload_n (i := 0) (t := 15) (j := 0) (by rfl) (by rfl) d_Model_qDropsToBracket_11) og_w1235 d_Model_qDropsToBracket_12) (by rfl) (og_isub (og_f_Model_qWaits (og_aload_n (i := 0) (t := 15) (j := 0) (by rfl) (by rfl) d_Model_qDropsToBracket_15) og_w1236 d_Model_qDropsToBracket_16) (og_iconst (by decide) d_Model_qDropsToBracket_19) d_Model_qDropsToBracket_20) d_Model_qDropsToBracket_21) (og_anil)) (by decide) ok_Model_qIsBracket (v_Model_qIsBracket (by decide)) og_w1598 d_Model_qDropsToBracket_22) d_Model_qDropsToBracket_25 (by decide)))) (og_gS (b' := 0) (og_callVv (og_acons (og_aload_n (i := 0) (t := 15) (j := 0) (by rfl) (by rfl) d_Model_qDropsToBracket_28) (og_anil)) ok_Model_qDrops (v_Model_qDrops (by decide)) og_w1586 d_Model_qDropsToBracket_29) d_Model_qDropsToBracket_32 (by decide)) (og_sskip)) (fun _ => d_Model_qDropsToBracket_35)
abbrev og_c_Model_qIsOn : ByteArray := prog_14_method_104_code
abbrev og_y_Model_qIsOn : MethodName := ⟨"OpenGravesModel", "qIsOn", "(I)Z"⟩
theorem v_Model_qIsOn {own : String} {idx dep : Nat} (h : 1 + 1 ≤ dep) : og_sV own idx og_y_Model_qIsOn og_c_Model_qIsOn 2 3 1 dep 13 1 := ⟨⟨12, og_sl_Model, og_T_Model, 102, rfl, by decide, rfl⟩, og_w1607, (og_memP (⟨"OpenGravesModel", "qIsOn", "(I)Z"⟩, 102) (List.mem_of_getElem? (i := 82) (by decide +kernel))), og_w17, og_w1608, ⟨by decide +kernel, by decide +kernel, by decide +kernel⟩, h, by decide⟩
theorem d_Model_qIsOn_0 : decode og_c_Model_qIsOn 0 = .ok (.aload_n 0, 1) := by decide +kernel
theorem d_Model_qIsOn_1 : decode og_c_Model_qIsOn 1 = .ok (.getfield 329, 3) := by decide +kernel
theorem d_Model_qIsOn_4 : decode og_c_Model_qIsOn 4 = .ok (.ifCond .le 22, 3) := by decide +kernel
theorem d_Model_qIsOn_7 : decode og_c_Model_qIsOn 7 = .ok (.aload_n 0, 1) := by decide +kernel
theorem d_Model_qIsOn_8 : decode og_c_Model_qIsOn 8 = .ok (.getfield 230, 3) := by decide +kernel
theorem d_Model_qIsOn_11 : decode og_c_Model_qIsOn 11 = .ok (.aload_n 0, 1) := by decide +kernel
theorem d_Model_qIsOn_12 : decode og_c_Model_qIsOn 12 = .ok (.getfield 329, 3) := by decide +kernel
theorem d_Model_qIsOn_15 : decode og_c_Model_qIsOn 15 = .ok (.iconst 1, 1) := by decide +kernel
theorem d_Model_qIsOn_16 : decode og_c_Model_qIsOn 16 = .ok (.isub, 1) := by decide +kernel
theorem d_Model_qIsOn_17 : decode og_c_Model_qIsOn 17 = .ok (.iaload, 1) := by decide +kernel
theorem d_Model_qIsOn_18 : decode og_c_Model_qIsOn 18 = .ok (.iload_n 1, 1) := by decide +kernel
theorem d_Model_qIsOn_19 : decode og_c_Model_qIsOn 19 = .ok (.if_icmp .ne 7, 3) := by decide +kernel
theorem d_Model_qIsOn_22 : decode og_c_Model_qIsOn 22 = .ok (.iconst 1, 1) := by decide +kernel
theorem d_Model_qIsOn_23 : decode og_c_Model_qIsOn 23 = .ok (.goto 4, 3) := by decide +kernel
theorem d_Model_qIsOn_26 : decode og_c_Model_qIsOn 26 = .ok (.iconst 0, 1) := by decide +kernel
theorem d_Model_qIsOn_27 : decode og_c_Model_qIsOn 27 = .ok (.ireturn, 1) := by decide +kernel
def m_Model_qIsOn : og_Dn := og_den [17, 0] 2 3 (og_retz (og_ec (og_and (og_cc og_rgt (og_get 93 (og_loc 0)) (og_k 0)) (og_cc og_req (og_ald 1700 (og_fix (fun _ => 1071) (og_loc 0)) (og_sub (og_get 93 (og_loc 0)) (og_k 1))) (og_loc 1)))))
set_option maxRecDepth 20000 in
theorem ok_Model_qIsOn : og_MOK og_y_Model_qIsOn og_c_Model_qIsOn 2 3 1 [17, 0] m_Model_qIsOn := og_method (b := 0) (lt' := []) (by decide +kernel) (by decide) (by decide) (og_sretz (og_econd (b := 0) (og_cand (og_ccn og_n_gt (og_zle (tgt := 26) (og_f_Model_qWaits (og_aload_n (i := 0) (t := 15) (j := 0) (by rfl) (by rfl) d_Model_qIsOn_0) og_w1236 d_Model_qIsOn_1) d_Model_qIsOn_4 (by decide))) (og_ccn og_n_eq (og_ine (tgt := 26) (og_iald (N := 1700) (og_f_Model_qWait (og_aload_n (i := 0) (t := 15) (j := 0) (by rfl) (by rfl) d_Model_qIsOn_7) og_w1235 d_Model_qIsOn_8) (by rfl) (og_isub (og_f_Model_qWaits (og_aload_n (i := 0) (t := 15) (j := 0) (by rfl) (by rfl) d_Model_qIsOn_11) og_w1236 d_Model_qIsOn_12) (og_iconst (by decide) d_Model_qIsOn_15) d_Model_qIsOn_16) d_Model_qIsOn_17) (og_iload_n (i := 1) (j := 1) (by rfl) (by rfl) d_Model_qIsOn_18) d_Model_qIsOn_19 (by decide)))) d_Model_qIsOn_22 d_Model_qIsOn_23 (by decide) d_Model_qIsOn_26 (by rfl)) d_Model_qIsOn_27) (fun h => by cases h)
abbrev og_c_Model_qGoesOn : ByteArray := prog_14_method_114_code
abbrev og_y_Model_qGoesOn : MethodName := ⟨"OpenGravesModel", "qGoesOn", "()Z"⟩
theorem v_Model_qGoesOn {own : String} {idx dep : Nat} (h : 4 + 1 ≤ dep) : og_sV own idx og_y_Model_qGoesOn og_c_Model_qGoesOn 2 3 4 dep 13 0 := ⟨⟨12, og_sl_Model, og_T_Model, 102, rfl, by decide, rfl⟩, og_w1592, (og_memP (⟨"OpenGravesModel", "qGoesOn", "()Z"⟩, 102) (List.mem_of_getElem? (i := 79) (by decide +kernel))), og_w17, og_w1593, ⟨by decide +kernel, by decide +kernel, by decide +kernel⟩, h, by decide⟩
theorem d_Model_qGoesOn_0 : decode og_c_Model_qGoesOn 0 = .ok (.aload_n 0, 1) := by decide +kernel
theorem d_Model_qGoesOn_1 : decode og_c_Model_qGoesOn 1 = .ok (.getfield 242, 3) := by decide +kernel
theorem d_Model_qGoesOn_4 : decode og_c_Model_qGoesOn 4 = .ok (.ifCond .ne 118, 3) := by decide +kernel
theorem d_Model_qGoesOn_7 : decode og_c_Model_qGoesOn 7 = .ok (.aload_n 0, 1) := by decide +kernel
theorem d_Model_qGoesOn_8 : decode og_c_Model_qGoesOn 8 = .ok (.invokevirtual 254, 3) := by decide +kernel
theorem d_Model_qGoesOn_11 : decode og_c_Model_qGoesOn 11 = .ok (.bipush 41, 2) := by decide +kernel
theorem d_Model_qGoesOn_13 : decode og_c_Model_qGoesOn 13 = .ok (.if_icmp .ne 109, 3) := by decide +kernel
theorem d_Model_qGoesOn_16 : decode og_c_Model_qGoesOn 16 = .ok (.aload_n 0, 1) := by decide +kernel
theorem d_Model_qGoesOn_17 : decode og_c_Model_qGoesOn 17 = .ok (.invokevirtual 615, 3) := by decide +kernel
theorem d_Model_qGoesOn_20 : decode og_c_Model_qGoesOn 20 = .ok (.bipush 20, 2) := by decide +kernel
theorem d_Model_qGoesOn_22 : decode og_c_Model_qGoesOn 22 = .ok (.if_icmp .eq 21, 3) := by decide +kernel
theorem d_Model_qGoesOn_25 : decode og_c_Model_qGoesOn 25 = .ok (.aload_n 0, 1) := by decide +kernel
theorem d_Model_qGoesOn_26 : decode og_c_Model_qGoesOn 26 = .ok (.invokevirtual 615, 3) := by decide +kernel
theorem d_Model_qGoesOn_29 : decode og_c_Model_qGoesOn 29 = .ok (.bipush 23, 2) := by decide +kernel
theorem d_Model_qGoesOn_31 : decode og_c_Model_qGoesOn 31 = .ok (.if_icmp .eq 12, 3) := by decide +kernel
theorem d_Model_qGoesOn_34 : decode og_c_Model_qGoesOn 34 = .ok (.aload_n 0, 1) := by decide +kernel
theorem d_Model_qGoesOn_35 : decode og_c_Model_qGoesOn 35 = .ok (.invokevirtual 615, 3) := by decide +kernel
theorem d_Model_qGoesOn_38 : decode og_c_Model_qGoesOn 38 = .ok (.bipush 24, 2) := by decide +kernel
theorem d_Model_qGoesOn_40 : decode og_c_Model_qGoesOn 40 = .ok (.if_icmp .ne 82, 3) := by decide +kernel
theorem d_Model_qGoesOn_43 : decode og_c_Model_qGoesOn 43 = .ok (.aload_n 0, 1) := by decide +kernel
theorem d_Model_qGoesOn_44 : decode og_c_Model_qGoesOn 44 = .ok (.dup, 1) := by decide +kernel
theorem d_Model_qGoesOn_45 : decode og_c_Model_qGoesOn 45 = .ok (.getfield 248, 3) := by decide +kernel
theorem d_Model_qGoesOn_48 : decode og_c_Model_qGoesOn 48 = .ok (.iconst 1, 1) := by decide +kernel
theorem d_Model_qGoesOn_49 : decode og_c_Model_qGoesOn 49 = .ok (.iadd, 1) := by decide +kernel
theorem d_Model_qGoesOn_50 : decode og_c_Model_qGoesOn 50 = .ok (.putfield 248, 3) := by decide +kernel
theorem d_Model_qGoesOn_53 : decode og_c_Model_qGoesOn 53 = .ok (.aload_n 0, 1) := by decide +kernel
theorem d_Model_qGoesOn_54 : decode og_c_Model_qGoesOn 54 = .ok (.invokevirtual 618, 3) := by decide +kernel
theorem d_Model_qGoesOn_57 : decode og_c_Model_qGoesOn 57 = .ok (.aload_n 0, 1) := by decide +kernel
theorem d_Model_qGoesOn_58 : decode og_c_Model_qGoesOn 58 = .ok (.dup, 1) := by decide +kernel
theorem d_Model_qGoesOn_59 : decode og_c_Model_qGoesOn 59 = .ok (.getfield 329, 3) := by decide +kernel
theorem d_Model_qGoesOn_62 : decode og_c_Model_qGoesOn 62 = .ok (.iconst 1, 1) := by decide +kernel
theorem d_Model_qGoesOn_63 : decode og_c_Model_qGoesOn 63 = .ok (.isub, 1) := by decide +kernel
theorem d_Model_qGoesOn_64 : decode og_c_Model_qGoesOn 64 = .ok (.putfield 329, 3) := by decide +kernel
theorem d_Model_qGoesOn_67 : decode og_c_Model_qGoesOn 67 = .ok (.aload_n 0, 1) := by decide +kernel
theorem d_Model_qGoesOn_68 : decode og_c_Model_qGoesOn 68 = .ok (.dup, 1) := by decide +kernel
theorem d_Model_qGoesOn_69 : decode og_c_Model_qGoesOn 69 = .ok (.getfield 332, 3) := by decide +kernel
theorem d_Model_qGoesOn_72 : decode og_c_Model_qGoesOn 72 = .ok (.iconst 1, 1) := by decide +kernel
theorem d_Model_qGoesOn_73 : decode og_c_Model_qGoesOn 73 = .ok (.isub, 1) := by decide +kernel
theorem d_Model_qGoesOn_74 : decode og_c_Model_qGoesOn 74 = .ok (.putfield 332, 3) := by decide +kernel
theorem d_Model_qGoesOn_77 : decode og_c_Model_qGoesOn 77 = .ok (.aload_n 0, 1) := by decide +kernel
theorem d_Model_qGoesOn_78 : decode og_c_Model_qGoesOn 78 = .ok (.getfield 230, 3) := by decide +kernel
theorem d_Model_qGoesOn_81 : decode og_c_Model_qGoesOn 81 = .ok (.aload_n 0, 1) := by decide +kernel
theorem d_Model_qGoesOn_82 : decode og_c_Model_qGoesOn 82 = .ok (.getfield 329, 3) := by decide +kernel
theorem d_Model_qGoesOn_85 : decode og_c_Model_qGoesOn 85 = .ok (.iaload, 1) := by decide +kernel
theorem d_Model_qGoesOn_86 : decode og_c_Model_qGoesOn 86 = .ok (.bipush 20, 2) := by decide +kernel
theorem d_Model_qGoesOn_88 : decode og_c_Model_qGoesOn 88 = .ok (.if_icmp .eq 27, 3) := by decide +kernel
theorem d_Model_qGoesOn_91 : decode og_c_Model_qGoesOn 91 = .ok (.aload_n 0, 1) := by decide +kernel
theorem d_Model_qGoesOn_92 : decode og_c_Model_qGoesOn 92 = .ok (.aload_n 0, 1) := by decide +kernel
theorem d_Model_qGoesOn_93 : decode og_c_Model_qGoesOn 93 = .ok (.getfield 230, 3) := by decide +kernel
theorem d_Model_qGoesOn_96 : decode og_c_Model_qGoesOn 96 = .ok (.aload_n 0, 1) := by decide +kernel
theorem d_Model_qGoesOn_97 : decode og_c_Model_qGoesOn 97 = .ok (.getfield 329, 3) := by decide +kernel
theorem d_Model_qGoesOn_100 : decode og_c_Model_qGoesOn 100 = .ok (.iaload, 1) := by decide +kernel
theorem d_Model_qGoesOn_101 : decode og_c_Model_qGoesOn 101 = .ok (.bipush 23, 2) := by decide +kernel
theorem d_Model_qGoesOn_103 : decode og_c_Model_qGoesOn 103 = .ok (.if_icmp .ne 7, 3) := by decide +kernel
theorem d_Model_qGoesOn_106 : decode og_c_Model_qGoesOn 106 = .ok (.iconst 5, 1) := by decide +kernel
theorem d_Model_qGoesOn_107 : decode og_c_Model_qGoesOn 107 = .ok (.goto 5, 3) := by decide +kernel
theorem d_Model_qGoesOn_110 : decode og_c_Model_qGoesOn 110 = .ok (.bipush 6, 2) := by decide +kernel
theorem d_Model_qGoesOn_112 : decode og_c_Model_qGoesOn 112 = .ok (.invokevirtual 588, 3) := by decide +kernel
theorem d_Model_qGoesOn_115 : decode og_c_Model_qGoesOn 115 = .ok (.aload_n 0, 1) := by decide +kernel
theorem d_Model_qGoesOn_116 : decode og_c_Model_qGoesOn 116 = .ok (.invokevirtual 612, 3) := by decide +kernel
theorem d_Model_qGoesOn_119 : decode og_c_Model_qGoesOn 119 = .ok (.goto (-119), 3) := by decide +kernel
theorem d_Model_qGoesOn_122 : decode og_c_Model_qGoesOn 122 = .ok (.aload_n 0, 1) := by decide +kernel
theorem d_Model_qGoesOn_123 : decode og_c_Model_qGoesOn 123 = .ok (.bipush 42, 2) := by decide +kernel
theorem d_Model_qGoesOn_125 : decode og_c_Model_qGoesOn 125 = .ok (.invokevirtual 276, 3) := by decide +kernel
theorem d_Model_qGoesOn_128 : decode og_c_Model_qGoesOn 128 = .ok (.ifCond .ne 12, 3) := by decide +kernel
theorem d_Model_qGoesOn_131 : decode og_c_Model_qGoesOn 131 = .ok (.aload_n 0, 1) := by decide +kernel
theorem d_Model_qGoesOn_132 : decode og_c_Model_qGoesOn 132 = .ok (.bipush 47, 2) := by decide +kernel
theorem d_Model_qGoesOn_134 : decode og_c_Model_qGoesOn 134 = .ok (.invokevirtual 276, 3) := by decide +kernel
theorem d_Model_qGoesOn_137 : decode og_c_Model_qGoesOn 137 = .ok (.ifCond .eq 70, 3) := by decide +kernel
theorem d_Model_qGoesOn_140 : decode og_c_Model_qGoesOn 140 = .ok (.aload_n 0, 1) := by decide +kernel
theorem d_Model_qGoesOn_141 : decode og_c_Model_qGoesOn 141 = .ok (.getfield 7, 3) := by decide +kernel
theorem d_Model_qGoesOn_144 : decode og_c_Model_qGoesOn 144 = .ok (.aload_n 0, 1) := by decide +kernel
theorem d_Model_qGoesOn_145 : decode og_c_Model_qGoesOn 145 = .ok (.getfield 248, 3) := by decide +kernel
theorem d_Model_qGoesOn_148 : decode og_c_Model_qGoesOn 148 = .ok (.iconst 1, 1) := by decide +kernel
theorem d_Model_qGoesOn_149 : decode og_c_Model_qGoesOn 149 = .ok (.isub, 1) := by decide +kernel
theorem d_Model_qGoesOn_150 : decode og_c_Model_qGoesOn 150 = .ok (.iaload, 1) := by decide +kernel
theorem d_Model_qGoesOn_151 : decode og_c_Model_qGoesOn 151 = .ok (.bipush 42, 2) := by decide +kernel
theorem d_Model_qGoesOn_153 : decode og_c_Model_qGoesOn 153 = .ok (.if_icmp .ne 7, 3) := by decide +kernel
theorem d_Model_qGoesOn_156 : decode og_c_Model_qGoesOn 156 = .ok (.iconst 3, 1) := by decide +kernel
theorem d_Model_qGoesOn_157 : decode og_c_Model_qGoesOn 157 = .ok (.goto 4, 3) := by decide +kernel
theorem d_Model_qGoesOn_160 : decode og_c_Model_qGoesOn 160 = .ok (.iconst 4, 1) := by decide +kernel
theorem d_Model_qGoesOn_161 : decode og_c_Model_qGoesOn 161 = .ok (.istore_n 1, 1) := by decide +kernel
theorem d_Model_qGoesOn_162 : decode og_c_Model_qGoesOn 162 = .ok (.aload_n 0, 1) := by decide +kernel
theorem d_Model_qGoesOn_163 : decode og_c_Model_qGoesOn 163 = .ok (.iconst 3, 1) := by decide +kernel
theorem d_Model_qGoesOn_164 : decode og_c_Model_qGoesOn 164 = .ok (.invokevirtual 621, 3) := by decide +kernel
theorem d_Model_qGoesOn_167 : decode og_c_Model_qGoesOn 167 = .ok (.ifCond .ne 11, 3) := by decide +kernel
theorem d_Model_qGoesOn_170 : decode og_c_Model_qGoesOn 170 = .ok (.aload_n 0, 1) := by decide +kernel
theorem d_Model_qGoesOn_171 : decode og_c_Model_qGoesOn 171 = .ok (.iconst 4, 1) := by decide +kernel
theorem d_Model_qGoesOn_172 : decode og_c_Model_qGoesOn 172 = .ok (.invokevirtual 621, 3) := by decide +kernel
theorem d_Model_qGoesOn_175 : decode og_c_Model_qGoesOn 175 = .ok (.ifCond .eq 10, 3) := by decide +kernel
theorem d_Model_qGoesOn_178 : decode og_c_Model_qGoesOn 178 = .ok (.aload_n 0, 1) := by decide +kernel
theorem d_Model_qGoesOn_179 : decode og_c_Model_qGoesOn 179 = .ok (.invokevirtual 594, 3) := by decide +kernel
theorem d_Model_qGoesOn_182 : decode og_c_Model_qGoesOn 182 = .ok (.goto (-20), 3) := by decide +kernel
theorem d_Model_qGoesOn_185 : decode og_c_Model_qGoesOn 185 = .ok (.aload_n 0, 1) := by decide +kernel
theorem d_Model_qGoesOn_186 : decode og_c_Model_qGoesOn 186 = .ok (.getfield 230, 3) := by decide +kernel
theorem d_Model_qGoesOn_189 : decode og_c_Model_qGoesOn 189 = .ok (.aload_n 0, 1) := by decide +kernel
theorem d_Model_qGoesOn_190 : decode og_c_Model_qGoesOn 190 = .ok (.getfield 329, 3) := by decide +kernel
theorem d_Model_qGoesOn_193 : decode og_c_Model_qGoesOn 193 = .ok (.iload_n 1, 1) := by decide +kernel
theorem d_Model_qGoesOn_194 : decode og_c_Model_qGoesOn 194 = .ok (.iastore, 1) := by decide +kernel
theorem d_Model_qGoesOn_195 : decode og_c_Model_qGoesOn 195 = .ok (.aload_n 0, 1) := by decide +kernel
theorem d_Model_qGoesOn_196 : decode og_c_Model_qGoesOn 196 = .ok (.dup, 1) := by decide +kernel
theorem d_Model_qGoesOn_197 : decode og_c_Model_qGoesOn 197 = .ok (.getfield 329, 3) := by decide +kernel
theorem d_Model_qGoesOn_200 : decode og_c_Model_qGoesOn 200 = .ok (.iconst 1, 1) := by decide +kernel
theorem d_Model_qGoesOn_201 : decode og_c_Model_qGoesOn 201 = .ok (.iadd, 1) := by decide +kernel
theorem d_Model_qGoesOn_202 : decode og_c_Model_qGoesOn 202 = .ok (.putfield 329, 3) := by decide +kernel
theorem d_Model_qGoesOn_205 : decode og_c_Model_qGoesOn 205 = .ok (.iconst 1, 1) := by decide +kernel
theorem d_Model_qGoesOn_206 : decode og_c_Model_qGoesOn 206 = .ok (.ireturn, 1) := by decide +kernel
theorem d_Model_qGoesOn_207 : decode og_c_Model_qGoesOn 207 = .ok (.aload_n 0, 1) := by decide +kernel
theorem d_Model_qGoesOn_208 : decode og_c_Model_qGoesOn 208 = .ok (.bipush 43, 2) := by decide +kernel
theorem d_Model_qGoesOn_210 : decode og_c_Model_qGoesOn 210 = .ok (.invokevirtual 276, 3) := by decide +kernel
theorem d_Model_qGoesOn_213 : decode og_c_Model_qGoesOn 213 = .ok (.ifCond .ne 12, 3) := by decide +kernel
theorem d_Model_qGoesOn_216 : decode og_c_Model_qGoesOn 216 = .ok (.aload_n 0, 1) := by decide +kernel
theorem d_Model_qGoesOn_217 : decode og_c_Model_qGoesOn 217 = .ok (.bipush 45, 2) := by decide +kernel
theorem d_Model_qGoesOn_219 : decode og_c_Model_qGoesOn 219 = .ok (.invokevirtual 276, 3) := by decide +kernel
theorem d_Model_qGoesOn_222 : decode og_c_Model_qGoesOn 222 = .ok (.ifCond .eq 86, 3) := by decide +kernel
theorem d_Model_qGoesOn_225 : decode og_c_Model_qGoesOn 225 = .ok (.aload_n 0, 1) := by decide +kernel
theorem d_Model_qGoesOn_226 : decode og_c_Model_qGoesOn 226 = .ok (.getfield 7, 3) := by decide +kernel
theorem d_Model_qGoesOn_229 : decode og_c_Model_qGoesOn 229 = .ok (.aload_n 0, 1) := by decide +kernel
theorem d_Model_qGoesOn_230 : decode og_c_Model_qGoesOn 230 = .ok (.getfield 248, 3) := by decide +kernel
theorem d_Model_qGoesOn_233 : decode og_c_Model_qGoesOn 233 = .ok (.iconst 1, 1) := by decide +kernel
theorem d_Model_qGoesOn_234 : decode og_c_Model_qGoesOn 234 = .ok (.isub, 1) := by decide +kernel
theorem d_Model_qGoesOn_235 : decode og_c_Model_qGoesOn 235 = .ok (.iaload, 1) := by decide +kernel
theorem d_Model_qGoesOn_236 : decode og_c_Model_qGoesOn 236 = .ok (.bipush 43, 2) := by decide +kernel
theorem d_Model_qGoesOn_238 : decode og_c_Model_qGoesOn 238 = .ok (.if_icmp .ne 7, 3) := by decide +kernel
theorem d_Model_qGoesOn_241 : decode og_c_Model_qGoesOn 241 = .ok (.iconst 1, 1) := by decide +kernel
theorem d_Model_qGoesOn_242 : decode og_c_Model_qGoesOn 242 = .ok (.goto 4, 3) := by decide +kernel
theorem d_Model_qGoesOn_245 : decode og_c_Model_qGoesOn 245 = .ok (.iconst 2, 1) := by decide +kernel
theorem d_Model_qGoesOn_246 : decode og_c_Model_qGoesOn 246 = .ok (.istore_n 1, 1) := by decide +kernel
theorem d_Model_qGoesOn_247 : decode og_c_Model_qGoesOn 247 = .ok (.aload_n 0, 1) := by decide +kernel
theorem d_Model_qGoesOn_248 : decode og_c_Model_qGoesOn 248 = .ok (.iconst 3, 1) := by decide +kernel
theorem d_Model_qGoesOn_249 : decode og_c_Model_qGoesOn 249 = .ok (.invokevirtual 621, 3) := by decide +kernel
theorem d_Model_qGoesOn_252 : decode og_c_Model_qGoesOn 252 = .ok (.ifCond .ne 27, 3) := by decide +kernel
theorem d_Model_qGoesOn_255 : decode og_c_Model_qGoesOn 255 = .ok (.aload_n 0, 1) := by decide +kernel
theorem d_Model_qGoesOn_256 : decode og_c_Model_qGoesOn 256 = .ok (.iconst 4, 1) := by decide +kernel
theorem d_Model_qGoesOn_257 : decode og_c_Model_qGoesOn 257 = .ok (.invokevirtual 621, 3) := by decide +kernel
theorem d_Model_qGoesOn_260 : decode og_c_Model_qGoesOn 260 = .ok (.ifCond .ne 19, 3) := by decide +kernel
theorem d_Model_qGoesOn_263 : decode og_c_Model_qGoesOn 263 = .ok (.aload_n 0, 1) := by decide +kernel
theorem d_Model_qGoesOn_264 : decode og_c_Model_qGoesOn 264 = .ok (.iconst 1, 1) := by decide +kernel
theorem d_Model_qGoesOn_265 : decode og_c_Model_qGoesOn 265 = .ok (.invokevirtual 621, 3) := by decide +kernel
theorem d_Model_qGoesOn_268 : decode og_c_Model_qGoesOn 268 = .ok (.ifCond .ne 11, 3) := by decide +kernel
theorem d_Model_qGoesOn_271 : decode og_c_Model_qGoesOn 271 = .ok (.aload_n 0, 1) := by decide +kernel
theorem d_Model_qGoesOn_272 : decode og_c_Model_qGoesOn 272 = .ok (.iconst 2, 1) := by decide +kernel
theorem d_Model_qGoesOn_273 : decode og_c_Model_qGoesOn 273 = .ok (.invokevirtual 621, 3) := by decide +kernel
theorem d_Model_qGoesOn_276 : decode og_c_Model_qGoesOn 276 = .ok (.ifCond .eq 10, 3) := by decide +kernel
theorem d_Model_qGoesOn_279 : decode og_c_Model_qGoesOn 279 = .ok (.aload_n 0, 1) := by decide +kernel
theorem d_Model_qGoesOn_280 : decode og_c_Model_qGoesOn 280 = .ok (.invokevirtual 594, 3) := by decide +kernel
theorem d_Model_qGoesOn_283 : decode og_c_Model_qGoesOn 283 = .ok (.goto (-36), 3) := by decide +kernel
theorem d_Model_qGoesOn_286 : decode og_c_Model_qGoesOn 286 = .ok (.aload_n 0, 1) := by decide +kernel
theorem d_Model_qGoesOn_287 : decode og_c_Model_qGoesOn 287 = .ok (.getfield 230, 3) := by decide +kernel
theorem d_Model_qGoesOn_290 : decode og_c_Model_qGoesOn 290 = .ok (.aload_n 0, 1) := by decide +kernel
theorem d_Model_qGoesOn_291 : decode og_c_Model_qGoesOn 291 = .ok (.getfield 329, 3) := by decide +kernel
theorem d_Model_qGoesOn_294 : decode og_c_Model_qGoesOn 294 = .ok (.iload_n 1, 1) := by decide +kernel
theorem d_Model_qGoesOn_295 : decode og_c_Model_qGoesOn 295 = .ok (.iastore, 1) := by decide +kernel
theorem d_Model_qGoesOn_296 : decode og_c_Model_qGoesOn 296 = .ok (.aload_n 0, 1) := by decide +kernel
theorem d_Model_qGoesOn_297 : decode og_c_Model_qGoesOn 297 = .ok (.dup, 1) := by decide +kernel
theorem d_Model_qGoesOn_298 : decode og_c_Model_qGoesOn 298 = .ok (.getfield 329, 3) := by decide +kernel
theorem d_Model_qGoesOn_301 : decode og_c_Model_qGoesOn 301 = .ok (.iconst 1, 1) := by decide +kernel
theorem d_Model_qGoesOn_302 : decode og_c_Model_qGoesOn 302 = .ok (.iadd, 1) := by decide +kernel
theorem d_Model_qGoesOn_303 : decode og_c_Model_qGoesOn 303 = .ok (.putfield 329, 3) := by decide +kernel
theorem d_Model_qGoesOn_306 : decode og_c_Model_qGoesOn 306 = .ok (.iconst 1, 1) := by decide +kernel
theorem d_Model_qGoesOn_307 : decode og_c_Model_qGoesOn 307 = .ok (.ireturn, 1) := by decide +kernel
theorem d_Model_qGoesOn_308 : decode og_c_Model_qGoesOn 308 = .ok (.aload_n 0, 1) := by decide +kernel
theorem d_Model_qGoesOn_309 : decode og_c_Model_qGoesOn 309 = .ok (.invokevirtual 615, 3) := by decide +kernel
theorem d_Model_qGoesOn_312 : decode og_c_Model_qGoesOn 312 = .ok (.bipush 21, 2) := by decide +kernel
theorem d_Model_qGoesOn_314 : decode og_c_Model_qGoesOn 314 = .ok (.if_icmp .eq 12, 3) := by decide +kernel
theorem d_Model_qGoesOn_317 : decode og_c_Model_qGoesOn 317 = .ok (.aload_n 0, 1) := by decide +kernel
theorem d_Model_qGoesOn_318 : decode og_c_Model_qGoesOn 318 = .ok (.invokevirtual 615, 3) := by decide +kernel
theorem d_Model_qGoesOn_321 : decode og_c_Model_qGoesOn 321 = .ok (.bipush 22, 2) := by decide +kernel
theorem d_Model_qGoesOn_323 : decode og_c_Model_qGoesOn 323 = .ok (.if_icmp .ne 39, 3) := by decide +kernel
theorem d_Model_qGoesOn_326 : decode og_c_Model_qGoesOn 326 = .ok (.aload_n 0, 1) := by decide +kernel
theorem d_Model_qGoesOn_327 : decode og_c_Model_qGoesOn 327 = .ok (.bipush 44, 2) := by decide +kernel
theorem d_Model_qGoesOn_329 : decode og_c_Model_qGoesOn 329 = .ok (.invokevirtual 357, 3) := by decide +kernel
theorem d_Model_qGoesOn_332 : decode og_c_Model_qGoesOn 332 = .ok (.aload_n 0, 1) := by decide +kernel
theorem d_Model_qGoesOn_333 : decode og_c_Model_qGoesOn 333 = .ok (.getfield 242, 3) := by decide +kernel
theorem d_Model_qGoesOn_336 : decode og_c_Model_qGoesOn 336 = .ok (.ifCond .eq 5, 3) := by decide +kernel
theorem d_Model_qGoesOn_339 : decode og_c_Model_qGoesOn 339 = .ok (.iconst 0, 1) := by decide +kernel
theorem d_Model_qGoesOn_340 : decode og_c_Model_qGoesOn 340 = .ok (.ireturn, 1) := by decide +kernel
theorem d_Model_qGoesOn_341 : decode og_c_Model_qGoesOn 341 = .ok (.aload_n 0, 1) := by decide +kernel
theorem d_Model_qGoesOn_342 : decode og_c_Model_qGoesOn 342 = .ok (.invokevirtual 618, 3) := by decide +kernel
theorem d_Model_qGoesOn_345 : decode og_c_Model_qGoesOn 345 = .ok (.aload_n 0, 1) := by decide +kernel
theorem d_Model_qGoesOn_346 : decode og_c_Model_qGoesOn 346 = .ok (.getfield 230, 3) := by decide +kernel
theorem d_Model_qGoesOn_349 : decode og_c_Model_qGoesOn 349 = .ok (.aload_n 0, 1) := by decide +kernel
theorem d_Model_qGoesOn_350 : decode og_c_Model_qGoesOn 350 = .ok (.getfield 329, 3) := by decide +kernel
theorem d_Model_qGoesOn_353 : decode og_c_Model_qGoesOn 353 = .ok (.iconst 1, 1) := by decide +kernel
theorem d_Model_qGoesOn_354 : decode og_c_Model_qGoesOn 354 = .ok (.isub, 1) := by decide +kernel
theorem d_Model_qGoesOn_355 : decode og_c_Model_qGoesOn 355 = .ok (.dup2, 1) := by decide +kernel
theorem d_Model_qGoesOn_356 : decode og_c_Model_qGoesOn 356 = .ok (.iaload, 1) := by decide +kernel
theorem d_Model_qGoesOn_357 : decode og_c_Model_qGoesOn 357 = .ok (.iconst 2, 1) := by decide +kernel
theorem d_Model_qGoesOn_358 : decode og_c_Model_qGoesOn 358 = .ok (.iadd, 1) := by decide +kernel
theorem d_Model_qGoesOn_359 : decode og_c_Model_qGoesOn 359 = .ok (.iastore, 1) := by decide +kernel
theorem d_Model_qGoesOn_360 : decode og_c_Model_qGoesOn 360 = .ok (.iconst 1, 1) := by decide +kernel
theorem d_Model_qGoesOn_361 : decode og_c_Model_qGoesOn 361 = .ok (.ireturn, 1) := by decide +kernel
theorem d_Model_qGoesOn_362 : decode og_c_Model_qGoesOn 362 = .ok (.aload_n 0, 1) := by decide +kernel
theorem d_Model_qGoesOn_363 : decode og_c_Model_qGoesOn 363 = .ok (.invokevirtual 615, 3) := by decide +kernel
theorem d_Model_qGoesOn_366 : decode og_c_Model_qGoesOn 366 = .ok (.iconst (-1), 1) := by decide +kernel
theorem d_Model_qGoesOn_367 : decode og_c_Model_qGoesOn 367 = .ok (.if_icmp .eq 19, 3) := by decide +kernel
theorem d_Model_qGoesOn_370 : decode og_c_Model_qGoesOn 370 = .ok (.aload_n 0, 1) := by decide +kernel
theorem d_Model_qGoesOn_371 : decode og_c_Model_qGoesOn 371 = .ok (.getfield 242, 3) := by decide +kernel
theorem d_Model_qGoesOn_374 : decode og_c_Model_qGoesOn 374 = .ok (.ifCond .ne 12, 3) := by decide +kernel
theorem d_Model_qGoesOn_377 : decode og_c_Model_qGoesOn 377 = .ok (.aload_n 0, 1) := by decide +kernel
theorem d_Model_qGoesOn_378 : decode og_c_Model_qGoesOn 378 = .ok (.iconst 1, 1) := by decide +kernel
theorem d_Model_qGoesOn_379 : decode og_c_Model_qGoesOn 379 = .ok (.aload_n 0, 1) := by decide +kernel
theorem d_Model_qGoesOn_380 : decode og_c_Model_qGoesOn 380 = .ok (.getfield 248, 3) := by decide +kernel
theorem d_Model_qGoesOn_383 : decode og_c_Model_qGoesOn 383 = .ok (.invokevirtual 272, 3) := by decide +kernel
theorem d_Model_qGoesOn_386 : decode og_c_Model_qGoesOn 386 = .ok (.iconst 0, 1) := by decide +kernel
theorem d_Model_qGoesOn_387 : decode og_c_Model_qGoesOn 387 = .ok (.ireturn, 1) := by decide +kernel
def m_Model_qGoesOn : og_Dn := og_den [17] 2 3 (og_cut (og_while (og_and (og_and (og_cc og_req (og_get 5 (og_loc 0)) (og_k 0)) (og_cc og_req (og_call m_Model_look [og_loc 0]) (og_k 41))) (og_or (og_or (og_cc og_req (og_call m_Model_qBracket [og_loc 0]) (og_k 20)) (og_cc og_req (og_call m_Model_qBracket [og_loc 0]) (og_k 23))) (og_cc og_req (og_call m_Model_qBracket [og_loc 0]) (og_k 24)))) (og_seq (og_pop32 og_padd 2 (og_loc 0) (og_k 1)) (og_seq (og_exp (og_call m_Model_qDropsToBracket [og_loc 0])) (og_seq (og_pop32 og_psub 93 (og_loc 0) (og_k 1)) (og_seq (og_pop32 og_psub 94 (og_loc 0) (og_k 1)) (og_cut (og_if (og_cc og_rne (og_ald 1700 (og_fix (fun _ => 1071) (og_loc 0)) (og_get 93 (og_loc 0))) (og_k 20)) (og_exp (og_call m_Model_qCode [og_loc 0, og_ei (og_cc og_req (og_ald 1700 (og_fix (fun _ => 1071) (og_loc 0)) (og_get 93 (og_loc 0))) (og_k 23)) (og_k 5) (og_k 6)])) (og_skip)) (og_exp (og_call m_Model_qEndsPart [og_loc 0]))))))) (og_skip)) (og_seq (og_if (og_or (og_cb (og_call m_Model_takesSign [og_loc 0, og_k 42])) (og_cb (og_call m_Model_takesSign [og_loc 0, og_k 47]))) (og_seq (og_set 1 (og_ei (og_cc og_req (og_ald 1600 (og_fix (fun _ => 1001) (og_loc 0)) (og_sub (og_get 2 (og_loc 0)) (og_k 1))) (og_k 42)) (og_k 3) (og_k 4))) (og_cut (og_while (og_or (og_cb (og_call m_Model_qIsOn [og_loc 0, og_k 3])) (og_cb (og_call m_Model_qIsOn [og_loc 0, og_k 4]))) (og_exp (og_call m_Model_qDrops [og_loc 0])) (og_skip)) (og_seq (og_ast 1700 (og_fix (fun _ => 1071) (og_loc 0)) (og_get 93 (og_loc 0)) (og_loc 1)) (og_seq (og_pop32 og_padd 93 (og_loc 0) (og_k 1)) (og_retz (og_k 1)))))) (og_skip)) (og_seq (og_if (og_or (og_cb (og_call m_Model_takesSign [og_loc 0, og_k 43])) (og_cb (og_call m_Model_takesSign [og_loc 0, og_k 45]))) (og_seq (og_set 1 (og_ei (og_cc og_req (og_ald 1600 (og_fix (fun _ => 1001) (og_loc 0)) (og_sub (og_get 2 (og_loc 0)) (og_k 1))) (og_k 43)) (og_k 1) (og_k 2))) (og_cut (og_while (og_or (og_or (og_or (og_cb (og_call m_Model_qIsOn [og_loc 0, og_k 3])) (og_cb (og_call m_Model_qIsOn [og_loc 0, og_k 4]))) (og_cb (og_call m_Model_qIsOn [og_loc 0, og_k 1]))) (og_cb (og_call m_Model_qIsOn [og_loc 0, og_k 2]))) (og_exp (og_call m_Model_qDrops [og_loc 0])) (og_skip)) (og_seq (og_ast 1700 (og_fix (fun _ => 1071) (og_loc 0)) (og_get 93 (og_loc 0)) (og_loc 1)) (og_seq (og_pop32 og_padd 93 (og_loc 0) (og_k 1)) (og_retz (og_k 1)))))) (og_skip)) (og_seq (og_if (og_or (og_cc og_req (og_call m_Model_qBracket [og_loc 0]) (og_k 21)) (og_cc og_req (og_call m_Model_qBracket [og_loc 0]) (og_k 22))) (og_seq (og_exp (og_call m_Model_asksSign [og_loc 0, og_k 44])) (og_seq (og_if (og_cc og_rne (og_get 5 (og_loc 0)) (og_k 0)) (og_retz (og_k 0)) (og_skip)) (og_seq (og_exp (og_call m_Model_qDropsToBracket [og_loc 0])) (og_seq (og_aop og_padd 1700 (og_fix (fun _ => 1071) (og_loc 0)) (og_sub (og_get 93 (og_loc 0)) (og_k 1)) (og_k 2)) (og_retz (og_k 1)))))) (og_skip)) (og_cut (og_if (og_and (og_cc og_rne (og_call m_Model_qBracket [og_loc 0]) (og_k (-1))) (og_cc og_req (og_get 5 (og_loc 0)) (og_k 0))) (og_exp (og_call m_Model_fail [og_loc 0, og_k 1, og_get 2 (og_loc 0)])) (og_skip)) (og_retz (og_k 0)))))))
set_option maxRecDepth 20000 in
theorem ok_Model_qGoesOn : og_MOK og_y_Model_qGoesOn og_c_Model_qGoesOn 2 3 4 [17] m_Model_qGoesOn := og_method (b := 0) (lt' := []) (by decide +kernel) (by decide) (by decide) (og_scut (og_swhile (T := 43) (F := 122) (cp0 := 0) (og_cand (og_cand (og_ccn og_n_eq (og_zne (tgt := 122) (og_f_Model_bad (og_aload_n (i := 0) (t := 15) (j := 0) (by rfl) (by rfl) d_Model_qGoesOn_0) og_w1148 d_Model_qGoesOn_1) d_Model_qGoesOn_4 (by decide))) (og_ccn og_n_eq (og_ine (tgt := 122) (og_callVi (og_acons (og_aload_n (i := 0) (t := 15) (j := 0) (by rfl) (by rfl) d_Model_qGoesOn_7) (og_anil)) (by decide) ok_Model_look (v_Model_look (by decide)) og_w1464 d_Model_qGoesOn_8) (og_bipush (by decide) d_Model_qGoesOn_11) d_Model_qGoesOn_13 (by decide)))) (og_cor (og_cor (og_ieq (tgt := 43) (og_callVi (og_acons (og_aload_n (i := 0) (t := 15) (j := 0) (by rfl) (by rfl) d_Model_qGoesOn_16) (og_anil)) (by decide) ok_Model_qBracket (v_Model_qBracket (by decide)) og_w1594 d_Model_qGoesOn_17) (og_bipush (by decide) d_Model_qGoesOn_20) d_Model_qGoesOn_22 (by decide)) (og_ieq (tgt := 43) (og_callVi (og_acons (og_aload_n (i := 0) (t := 15) (j := 0) (by rfl) (by rfl) d_Model_qGoesOn_25) (og_anil)) (by decide) ok_Model_qBracket (v_Model_qBracket (by decide)) og_w1594 d_Model_qGoesOn_26) (og_bipush (by decide) d_Model_qGoesOn_29) d_Model_qGoesOn_31 (by decide))) (og_ccn og_n_eq (og_ine (tgt := 122) (og_callVi (og_acons (og_aload_n (i := 0) (t := 15) (j := 0) (by rfl) (by rfl) d_Model_qGoesOn_34) (og_anil)) (by decide) ok_Model_qBracket (v_Model_qBracket (by decide)) og_w1594 d_Model_qGoesOn_35) (og_bipush (by decide) d_Model_qGoesOn_38) d_Model_qGoesOn_40 (by decide))))) (og_sseq (og_qadd_Model_at (og_aload_n (i := 0) (t := 15) (j := 0) (by rfl) (by rfl) d_Model_qGoesOn_43) d_Model_qGoesOn_44 d_Model_qGoesOn_45 (og_iconst (by decide) d_Model_qGoesOn_48) d_Model_qGoesOn_49 og_w1145 d_Model_qGoesOn_50) (og_sseq (og_callVv (og_acons (og_aload_n (i := 0) (t := 15) (j := 0) (by rfl) (by rfl) d_Model_qGoesOn_53) (og_anil)) ok_Model_qDropsToBracket (v_Model_qDropsToBracket (by decide)) og_w1601 d_Model_qGoesOn_54) (og_sseq (og_qsub_Model_qWaits (og_aload_n (i := 0) (t := 15) (j := 0) (by rfl) (by rfl) d_Model_qGoesOn_57) d_Model_qGoesOn_58 d_Model_qGoesOn_59 (og_iconst (by decide) d_Model_qGoesOn_62) d_Model_qGoesOn_63 og_w1236 d_Model_qGoesOn_64) (og_sseq (og_qsub_Model_qOpened (og_aload_n (i := 0) (t := 15) (j := 0) (by rfl) (by rfl) d_Model_qGoesOn_67) d_Model_qGoesOn_68 d_Model_qGoesOn_69 (og_iconst (by decide) d_Model_qGoesOn_72) d_Model_qGoesOn_73 og_w1237 d_Model_qGoesOn_74) (og_scut (og_sif (T := 91) (F := 115) (og_ccn og_n_ne (og_ieq (tgt := 115) (og_iald (N := 1700) (og_f_Model_qWait (og_aload_n (i := 0) (t := 15) (j := 0) (by rfl) (by rfl) d_Model_qGoesOn_77) og_w1235 d_Model_qGoesOn_78) (by rfl) (og_f_Model_qWaits (og_aload_n (i := 0) (t := 15) (j := 0) (by rfl) (by rfl) d_Model_qGoesOn_81) og_w1236 d_Model_qGoesOn_82) d_Model_qGoesOn_85) (og_bipush (by decide) d_Model_qGoesOn_86) d_Model_qGoesOn_88 (by decide))) (og_callVv (og_acons (og_aload_n (i := 0) (t := 15) (j := 0) (by rfl) (by rfl) d_Model_qGoesOn_91) (og_acons (og_eite (og_ccn og_n_eq (og_ine (tgt := 110) (og_iald (N := 1700) (og_f_Model_qWait (og_aload_n (i := 0) (t := 15) (j := 0) (by rfl) (by rfl) d_Model_qGoesOn_92) og_w1235 d_Model_qGoesOn_93) (by rfl) (og_f_Model_qWaits (og_aload_n (i := 0) (t := 15) (j := 0) (by rfl) (by rfl) d_Model_qGoesOn_96) og_w1236 d_Model_qGoesOn_97) d_Model_qGoesOn_100) (og_bipush (by decide) d_Model_qGoesOn_101) d_Model_qGoesOn_103 (by decide))) (og_iconst (by decide) d_Model_qGoesOn_106) d_Model_qGoesOn_107 (by decide) (og_bipush (by decide) d_Model_qGoesOn_110)) (og_anil))) ok_Model_qCode (v_Model_qCode (by decide)) og_w1546 d_Model_qGoesOn_112) (og_sskip)) (og_gS (b' := 0) (og_callVv (og_acons (og_aload_n (i := 0) (t := 15) (j := 0) (by rfl) (by rfl) d_Model_qGoesOn_115) (og_anil)) ok_Model_qEndsPart (v_Model_qEndsPart (by decide)) og_w1582 d_Model_qGoesOn_116) d_Model_qGoesOn_119 (by decide))))))) (og_sskip)) (og_sseq (og_sif (T := 140) (F := 207) (og_cor (og_cbne (tgt := 140) (og_callVz (og_acons (og_aload_n (i := 0) (t := 15) (j := 0) (by rfl) (by rfl) d_Model_qGoesOn_122) (og_acons (og_bipush (by decide) d_Model_qGoesOn_123) (og_anil))) (by decide) ok_Model_takesSign (v_Model_takesSign (by decide)) og_w1574 d_Model_qGoesOn_125) d_Model_qGoesOn_128 (by decide)) (og_cbeq (tgt := 207) (og_callVz (og_acons (og_aload_n (i := 0) (t := 15) (j := 0) (by rfl) (by rfl) d_Model_qGoesOn_131) (og_acons (og_bipush (by decide) d_Model_qGoesOn_132) (og_anil))) (by decide) ok_Model_takesSign (v_Model_takesSign (by decide)) og_w1574 d_Model_qGoesOn_134) d_Model_qGoesOn_137 (by decide))) (og_sseq (og_istore_n (i := 1) (lt' := [(0, 17), (1, 0)]) (og_eite (og_ccn og_n_eq (og_ine (tgt := 160) (og_iald (N := 1600) (og_f_Model_tape (og_aload_n (i := 0) (t := 15) (j := 0) (by rfl) (by rfl) d_Model_qGoesOn_140) og_w1143 d_Model_qGoesOn_141) (by rfl) (og_isub (og_f_Model_at (og_aload_n (i := 0) (t := 15) (j := 0) (by rfl) (by rfl) d_Model_qGoesOn_144) og_w1145 d_Model_qGoesOn_145) (og_iconst (by decide) d_Model_qGoesOn_148) d_Model_qGoesOn_149) d_Model_qGoesOn_150) (og_bipush (by decide) d_Model_qGoesOn_151) d_Model_qGoesOn_153 (by decide))) (og_iconst (by decide) d_Model_qGoesOn_156) d_Model_qGoesOn_157 (by decide) (og_iconst (by decide) d_Model_qGoesOn_160)) (by rfl) (by decide) (by decide) d_Model_qGoesOn_161) (og_scut (og_swhile (T := 178) (F := 185) (cp0 := 162) (og_cor (og_cbne (tgt := 178) (og_callVz (og_acons (og_aload_n (i := 0) (t := 15) (j := 0) (by rfl) (by rfl) d_Model_qGoesOn_162) (og_acons (og_iconst (by decide) d_Model_qGoesOn_163) (og_anil))) (by decide) ok_Model_qIsOn (v_Model_qIsOn (by decide)) og_w1605 d_Model_qGoesOn_164) d_Model_qGoesOn_167 (by decide)) (og_cbeq (tgt := 185) (og_callVz (og_acons (og_aload_n (i := 0) (t := 15) (j := 0) (by rfl) (by rfl) d_Model_qGoesOn_170) (og_acons (og_iconst (by decide) d_Model_qGoesOn_171) (og_anil))) (by decide) ok_Model_qIsOn (v_Model_qIsOn (by decide)) og_w1605 d_Model_qGoesOn_172) d_Model_qGoesOn_175 (by decide))) (og_gS (b' := 162) (og_callVv (og_acons (og_aload_n (i := 0) (t := 15) (j := 0) (by rfl) (by rfl) d_Model_qGoesOn_178) (og_anil)) ok_Model_qDrops (v_Model_qDrops (by decide)) og_w1586 d_Model_qGoesOn_179) d_Model_qGoesOn_182 (by decide)) (og_sskip)) (og_sseq (og_iastore (N := 1700) (og_f_Model_qWait (og_aload_n (i := 0) (t := 15) (j := 0) (by rfl) (by rfl) d_Model_qGoesOn_185) og_w1235 d_Model_qGoesOn_186) (by rfl) (og_f_Model_qWaits (og_aload_n (i := 0) (t := 15) (j := 0) (by rfl) (by rfl) d_Model_qGoesOn_189) og_w1236 d_Model_qGoesOn_190) (og_iload_n (i := 1) (j := 1) (by rfl) (by rfl) d_Model_qGoesOn_193) d_Model_qGoesOn_194) (og_sseq (og_qadd_Model_qWaits (og_aload_n (i := 0) (t := 15) (j := 0) (by rfl) (by rfl) d_Model_qGoesOn_195) d_Model_qGoesOn_196 d_Model_qGoesOn_197 (og_iconst (by decide) d_Model_qGoesOn_200) d_Model_qGoesOn_201 og_w1236 d_Model_qGoesOn_202) (og_sretz (og_iconst (by decide) d_Model_qGoesOn_205) d_Model_qGoesOn_206))))) (og_sskip)) (og_sseq (og_sif (T := 225) (F := 308) (og_cor (og_cbne (tgt := 225) (og_callVz (og_acons (og_aload_n (i := 0) (t := 15) (j := 0) (by rfl) (by rfl) d_Model_qGoesOn_207) (og_acons (og_bipush (by decide) d_Model_qGoesOn_208) (og_anil))) (by decide) ok_Model_takesSign (v_Model_takesSign (by decide)) og_w1574 d_Model_qGoesOn_210) d_Model_qGoesOn_213 (by decide)) (og_cbeq (tgt := 308) (og_callVz (og_acons (og_aload_n (i := 0) (t := 15) (j := 0) (by rfl) (by rfl) d_Model_qGoesOn_216) (og_acons (og_bipush (by decide) d_Model_qGoesOn_217) (og_anil))) (by decide) ok_Model_takesSign (v_Model_takesSign (by decide)) og_w1574 d_Model_qGoesOn_219) d_Model_qGoesOn_222 (by decide))) (og_sseq (og_istore_n (i := 1) (lt' := [(0, 17), (1, 0)]) (og_eite (og_ccn og_n_eq (og_ine (tgt := 245) (og_iald (N := 1600) (og_f_Model_tape (og_aload_n (i := 0) (t := 15) (j := 0) (by rfl) (by rfl) d_Model_qGoesOn_225) og_w1143 d_Model_qGoesOn_226) (by rfl) (og_isub (og_f_Model_at (og_aload_n (i := 0) (t := 15) (j := 0) (by rfl) (by rfl) d_Model_qGoesOn_229) og_w1145 d_Model_qGoesOn_230) (og_iconst (by decide) d_Model_qGoesOn_233) d_Model_qGoesOn_234) d_Model_qGoesOn_235) (og_bipush (by decide) d_Model_qGoesOn_236) d_Model_qGoesOn_238 (by decide))) (og_iconst (by decide) d_Model_qGoesOn_241) d_Model_qGoesOn_242 (by decide) (og_iconst (by decide) d_Model_qGoesOn_245)) (by rfl) (by decide) (by decide) d_Model_qGoesOn_246) (og_scut (og_swhile (T := 279) (F := 286) (cp0 := 247) (og_cor (og_cor (og_cor (og_cbne (tgt := 279) (og_callVz (og_acons (og_aload_n (i := 0) (t := 15) (j := 0) (by rfl) (by rfl) d_Model_qGoesOn_247) (og_acons (og_iconst (by decide) d_Model_qGoesOn_248) (og_anil))) (by decide) ok_Model_qIsOn (v_Model_qIsOn (by decide)) og_w1605 d_Model_qGoesOn_249) d_Model_qGoesOn_252 (by decide)) (og_cbne (tgt := 279) (og_callVz (og_acons (og_aload_n (i := 0) (t := 15) (j := 0) (by rfl) (by rfl) d_Model_qGoesOn_255) (og_acons (og_iconst (by decide) d_Model_qGoesOn_256) (og_anil))) (by decide) ok_Model_qIsOn (v_Model_qIsOn (by decide)) og_w1605 d_Model_qGoesOn_257) d_Model_qGoesOn_260 (by decide))) (og_cbne (tgt := 279) (og_callVz (og_acons (og_aload_n (i := 0) (t := 15) (j := 0) (by rfl) (by rfl) d_Model_qGoesOn_263) (og_acons (og_iconst (by decide) d_Model_qGoesOn_264) (og_anil))) (by decide) ok_Model_qIsOn (v_Model_qIsOn (by decide)) og_w1605 d_Model_qGoesOn_265) d_Model_qGoesOn_268 (by decide))) (og_cbeq (tgt := 286) (og_callVz (og_acons (og_aload_n (i := 0) (t := 15) (j := 0) (by rfl) (by rfl) d_Model_qGoesOn_271) (og_acons (og_iconst (by decide) d_Model_qGoesOn_272) (og_anil))) (by decide) ok_Model_qIsOn (v_Model_qIsOn (by decide)) og_w1605 d_Model_qGoesOn_273) d_Model_qGoesOn_276 (by decide))) (og_gS (b' := 247) (og_callVv (og_acons (og_aload_n (i := 0) (t := 15) (j := 0) (by rfl) (by rfl) d_Model_qGoesOn_279) (og_anil)) ok_Model_qDrops (v_Model_qDrops (by decide)) og_w1586 d_Model_qGoesOn_280) d_Model_qGoesOn_283 (by decide)) (og_sskip)) (og_sseq (og_iastore (N := 1700) (og_f_Model_qWait (og_aload_n (i := 0) (t := 15) (j := 0) (by rfl) (by rfl) d_Model_qGoesOn_286) og_w1235 d_Model_qGoesOn_287) (by rfl) (og_f_Model_qWaits (og_aload_n (i := 0) (t := 15) (j := 0) (by rfl) (by rfl) d_Model_qGoesOn_290) og_w1236 d_Model_qGoesOn_291) (og_iload_n (i := 1) (j := 1) (by rfl) (by rfl) d_Model_qGoesOn_294) d_Model_qGoesOn_295) (og_sseq (og_qadd_Model_qWaits (og_aload_n (i := 0) (t := 15) (j := 0) (by rfl) (by rfl) d_Model_qGoesOn_296) d_Model_qGoesOn_297 d_Model_qGoesOn_298 (og_iconst (by decide) d_Model_qGoesOn_301) d_Model_qGoesOn_302 og_w1236 d_Model_qGoesOn_303) (og_sretz (og_iconst (by decide) d_Model_qGoesOn_306) d_Model_qGoesOn_307))))) (og_sskip)) (og_sseq (og_sif (T := 326) (F := 362) (og_cor (og_ieq (tgt := 326) (og_callVi (og_acons (og_aload_n (i := 0) (t := 15) (j := 0) (by rfl) (by rfl) d_Model_qGoesOn_308) (og_anil)) (by decide) ok_Model_qBracket (v_Model_qBracket (by decide)) og_w1594 d_Model_qGoesOn_309) (og_bipush (by decide) d_Model_qGoesOn_312) d_Model_qGoesOn_314 (by decide)) (og_ccn og_n_eq (og_ine (tgt := 362) (og_callVi (og_acons (og_aload_n (i := 0) (t := 15) (j := 0) (by rfl) (by rfl) d_Model_qGoesOn_317) (og_anil)) (by decide) ok_Model_qBracket (v_Model_qBracket (by decide)) og_w1594 d_Model_qGoesOn_318) (og_bipush (by decide) d_Model_qGoesOn_321) d_Model_qGoesOn_323 (by decide)))) (og_sseq (og_callVv (og_acons (og_aload_n (i := 0) (t := 15) (j := 0) (by rfl) (by rfl) d_Model_qGoesOn_326) (og_acons (og_bipush (by decide) d_Model_qGoesOn_327) (og_anil))) ok_Model_asksSign (v_Model_asksSign (by decide)) og_w1570 d_Model_qGoesOn_329) (og_sseq (og_sif (T := 339) (F := 341) (og_ccn og_n_ne (og_zeq (tgt := 341) (og_f_Model_bad (og_aload_n (i := 0) (t := 15) (j := 0) (by rfl) (by rfl) d_Model_qGoesOn_332) og_w1148 d_Model_qGoesOn_333) d_Model_qGoesOn_336 (by decide))) (og_sretz (og_iconst (by decide) d_Model_qGoesOn_339) d_Model_qGoesOn_340) (og_sskip)) (og_sseq (og_callVv (og_acons (og_aload_n (i := 0) (t := 15) (j := 0) (by rfl) (by rfl) d_Model_qGoesOn_341) (og_anil)) ok_Model_qDropsToBracket (v_Model_qDropsToBracket (by decide)) og_w1601 d_Model_qGoesOn_342) (og_sseq (og_aadd (N := 1700) (og_f_Model_qWait (og_aload_n (i := 0) (t := 15) (j := 0) (by rfl) (by rfl) d_Model_qGoesOn_345) og_w1235 d_Model_qGoesOn_346) (by rfl) (og_isub (og_f_Model_qWaits (og_aload_n (i := 0) (t := 15) (j := 0) (by rfl) (by rfl) d_Model_qGoesOn_349) og_w1236 d_Model_qGoesOn_350) (og_iconst (by decide) d_Model_qGoesOn_353) d_Model_qGoesOn_354) d_Model_qGoesOn_355 d_Model_qGoesOn_356 (og_iconst (by decide) d_Model_qGoesOn_357) d_Model_qGoesOn_358 d_Model_qGoesOn_359) (og_sretz (og_iconst (by decide) d_Model_qGoesOn_360) d_Model_qGoesOn_361))))) (og_sskip)) (og_scut (og_sif (T := 377) (F := 386) (og_cand (og_ccn og_n_ne (og_ieq (tgt := 386) (og_callVi (og_acons (og_aload_n (i := 0) (t := 15) (j := 0) (by rfl) (by rfl) d_Model_qGoesOn_362) (og_anil)) (by decide) ok_Model_qBracket (v_Model_qBracket (by decide)) og_w1594 d_Model_qGoesOn_363) (og_iconst (by decide) d_Model_qGoesOn_366) d_Model_qGoesOn_367 (by decide))) (og_ccn og_n_eq (og_zne (tgt := 386) (og_f_Model_bad (og_aload_n (i := 0) (t := 15) (j := 0) (by rfl) (by rfl) d_Model_qGoesOn_370) og_w1148 d_Model_qGoesOn_371) d_Model_qGoesOn_374 (by decide)))) (og_callVv (og_acons (og_aload_n (i := 0) (t := 15) (j := 0) (by rfl) (by rfl) d_Model_qGoesOn_377) (og_acons (og_iconst (by decide) d_Model_qGoesOn_378) (og_acons (og_f_Model_at (og_aload_n (i := 0) (t := 15) (j := 0) (by rfl) (by rfl) d_Model_qGoesOn_379) og_w1145 d_Model_qGoesOn_380) (og_anil)))) ok_Model_fail (v_Model_fail (by decide)) og_w1491 d_Model_qGoesOn_383) (og_sskip)) (og_sretz (og_iconst (by decide) d_Model_qGoesOn_386) d_Model_qGoesOn_387)))))) (fun h => by cases h)
abbrev og_c_Model_qSums : ByteArray := prog_14_method_115_code
abbrev og_y_Model_qSums : MethodName := ⟨"OpenGravesModel", "qSums", "()V"⟩
theorem v_Model_qSums {own : String} {idx dep : Nat} (h : 7 + 1 ≤ dep) : og_sV own idx og_y_Model_qSums og_c_Model_qSums 3 2 7 dep 13 0 := ⟨⟨12, og_sl_Model, og_T_Model, 102, rfl, by decide, rfl⟩, og_w1552, (og_memP (⟨"OpenGravesModel", "qSums", "()V"⟩, 102) (List.mem_of_getElem? (i := 69) (by decide +kernel))), og_w17, og_w1553, ⟨by decide +kernel, by decide +kernel, by decide +kernel⟩, h, by decide⟩
theorem d_Model_qSums_0 : decode og_c_Model_qSums 0 = .ok (.aload_n 0, 1) := by decide +kernel
theorem d_Model_qSums_1 : decode og_c_Model_qSums 1 = .ok (.getfield 335, 3) := by decide +kernel
theorem d_Model_qSums_4 : decode og_c_Model_qSums 4 = .ok (.istore_n 1, 1) := by decide +kernel
theorem d_Model_qSums_5 : decode og_c_Model_qSums 5 = .ok (.aload_n 0, 1) := by decide +kernel
theorem d_Model_qSums_6 : decode og_c_Model_qSums 6 = .ok (.aload_n 0, 1) := by decide +kernel
theorem d_Model_qSums_7 : decode og_c_Model_qSums 7 = .ok (.getfield 329, 3) := by decide +kernel
theorem d_Model_qSums_10 : decode og_c_Model_qSums 10 = .ok (.putfield 335, 3) := by decide +kernel
theorem d_Model_qSums_13 : decode og_c_Model_qSums 13 = .ok (.iconst 1, 1) := by decide +kernel
theorem d_Model_qSums_14 : decode og_c_Model_qSums 14 = .ok (.istore_n 2, 1) := by decide +kernel
theorem d_Model_qSums_15 : decode og_c_Model_qSums 15 = .ok (.iload_n 2, 1) := by decide +kernel
theorem d_Model_qSums_16 : decode og_c_Model_qSums 16 = .ok (.ifCond .eq 37, 3) := by decide +kernel
theorem d_Model_qSums_19 : decode og_c_Model_qSums 19 = .ok (.aload_n 0, 1) := by decide +kernel
theorem d_Model_qSums_20 : decode og_c_Model_qSums 20 = .ok (.getfield 242, 3) := by decide +kernel
theorem d_Model_qSums_23 : decode og_c_Model_qSums 23 = .ok (.ifCond .ne 30, 3) := by decide +kernel
theorem d_Model_qSums_26 : decode og_c_Model_qSums 26 = .ok (.aload_n 0, 1) := by decide +kernel
theorem d_Model_qSums_27 : decode og_c_Model_qSums 27 = .ok (.invokevirtual 624, 3) := by decide +kernel
theorem d_Model_qSums_30 : decode og_c_Model_qSums 30 = .ok (.aload_n 0, 1) := by decide +kernel
theorem d_Model_qSums_31 : decode og_c_Model_qSums 31 = .ok (.getfield 242, 3) := by decide +kernel
theorem d_Model_qSums_34 : decode og_c_Model_qSums 34 = .ok (.ifCond .ne 14, 3) := by decide +kernel
theorem d_Model_qSums_37 : decode og_c_Model_qSums 37 = .ok (.aload_n 0, 1) := by decide +kernel
theorem d_Model_qSums_38 : decode og_c_Model_qSums 38 = .ok (.invokevirtual 627, 3) := by decide +kernel
theorem d_Model_qSums_41 : decode og_c_Model_qSums 41 = .ok (.ifCond .eq 7, 3) := by decide +kernel
theorem d_Model_qSums_44 : decode og_c_Model_qSums 44 = .ok (.iconst 1, 1) := by decide +kernel
theorem d_Model_qSums_45 : decode og_c_Model_qSums 45 = .ok (.goto 4, 3) := by decide +kernel
theorem d_Model_qSums_48 : decode og_c_Model_qSums 48 = .ok (.iconst 0, 1) := by decide +kernel
theorem d_Model_qSums_49 : decode og_c_Model_qSums 49 = .ok (.istore_n 2, 1) := by decide +kernel
theorem d_Model_qSums_50 : decode og_c_Model_qSums 50 = .ok (.goto (-35), 3) := by decide +kernel
theorem d_Model_qSums_53 : decode og_c_Model_qSums 53 = .ok (.aload_n 0, 1) := by decide +kernel
theorem d_Model_qSums_54 : decode og_c_Model_qSums 54 = .ok (.getfield 242, 3) := by decide +kernel
theorem d_Model_qSums_57 : decode og_c_Model_qSums 57 = .ok (.ifCond .ne 21, 3) := by decide +kernel
theorem d_Model_qSums_60 : decode og_c_Model_qSums 60 = .ok (.aload_n 0, 1) := by decide +kernel
theorem d_Model_qSums_61 : decode og_c_Model_qSums 61 = .ok (.getfield 329, 3) := by decide +kernel
theorem d_Model_qSums_64 : decode og_c_Model_qSums 64 = .ok (.aload_n 0, 1) := by decide +kernel
theorem d_Model_qSums_65 : decode og_c_Model_qSums 65 = .ok (.getfield 335, 3) := by decide +kernel
theorem d_Model_qSums_68 : decode og_c_Model_qSums 68 = .ok (.if_icmp .le 10, 3) := by decide +kernel
theorem d_Model_qSums_71 : decode og_c_Model_qSums 71 = .ok (.aload_n 0, 1) := by decide +kernel
theorem d_Model_qSums_72 : decode og_c_Model_qSums 72 = .ok (.invokevirtual 594, 3) := by decide +kernel
theorem d_Model_qSums_75 : decode og_c_Model_qSums 75 = .ok (.goto (-22), 3) := by decide +kernel
theorem d_Model_qSums_78 : decode og_c_Model_qSums 78 = .ok (.aload_n 0, 1) := by decide +kernel
theorem d_Model_qSums_79 : decode og_c_Model_qSums 79 = .ok (.iload_n 1, 1) := by decide +kernel
theorem d_Model_qSums_80 : decode og_c_Model_qSums 80 = .ok (.putfield 335, 3) := by decide +kernel
theorem d_Model_qSums_83 : decode og_c_Model_qSums 83 = .ok (.return_, 1) := by decide +kernel
def m_Model_qSums : og_Dn := og_den [17] 3 2 (og_seq (og_set 1 (og_get 95 (og_loc 0))) (og_seq (og_putf 95 (og_loc 0) (og_get 93 (og_loc 0))) (og_seq (og_set 2 (og_k 1)) (og_cut (og_while (og_and (og_cb (og_loc 2)) (og_cc og_req (og_get 5 (og_loc 0)) (og_k 0))) (og_seq (og_exp (og_call m_Model_qPartTold [og_loc 0])) (og_set 2 (og_ec (og_and (og_cc og_req (og_get 5 (og_loc 0)) (og_k 0)) (og_cb (og_call m_Model_qGoesOn [og_loc 0])))))) (og_skip)) (og_cut (og_while (og_and (og_cc og_req (og_get 5 (og_loc 0)) (og_k 0)) (og_cc og_rgt (og_get 93 (og_loc 0)) (og_get 95 (og_loc 0)))) (og_exp (og_call m_Model_qDrops [og_loc 0])) (og_skip)) (og_putf 95 (og_loc 0) (og_loc 1)))))))
set_option maxRecDepth 20000 in
theorem ok_Model_qSums : og_MOK og_y_Model_qSums og_c_Model_qSums 3 2 7 [17] m_Model_qSums := og_method (b := 83) (lt' := [(0, 17)]) (by decide +kernel) (by decide) (by decide) (og_sdrop (lt' := [(0, 17), (1, 0), (2, 0)]) (lt2 := [(0, 17)]) (og_sseq (og_istore_n (i := 1) (lt' := [(0, 17), (1, 0)]) (og_f_Model_qBase (og_aload_n (i := 0) (t := 15) (j := 0) (by rfl) (by rfl) d_Model_qSums_0) og_w1238 d_Model_qSums_1) (by rfl) (by decide) (by decide) d_Model_qSums_4) (og_sseq (og_p_Model_qBase (og_aload_n (i := 0) (t := 15) (j := 0) (by rfl) (by rfl) d_Model_qSums_5) (og_f_Model_qWaits (og_aload_n (i := 0) (t := 15) (j := 0) (by rfl) (by rfl) d_Model_qSums_6) og_w1236 d_Model_qSums_7) og_w1238 d_Model_qSums_10) (og_sseq (og_istore_n (i := 2) (lt' := [(0, 17), (1, 0), (2, 0)]) (og_iconst (by decide) d_Model_qSums_13) (by rfl) (by decide) (by decide) d_Model_qSums_14) (og_scut (og_swhile (T := 26) (F := 53) (cp0 := 15) (og_cand (og_cbeq (tgt := 53) (og_iload_n (i := 2) (j := 2) (by rfl) (by rfl) d_Model_qSums_15) d_Model_qSums_16 (by decide)) (og_ccn og_n_eq (og_zne (tgt := 53) (og_f_Model_bad (og_aload_n (i := 0) (t := 15) (j := 0) (by rfl) (by rfl) d_Model_qSums_19) og_w1148 d_Model_qSums_20) d_Model_qSums_23 (by decide)))) (og_sseq (og_callVv (og_acons (og_aload_n (i := 0) (t := 15) (j := 0) (by rfl) (by rfl) d_Model_qSums_26) (og_anil)) ok_Model_qPartTold (v_Model_qPartTold (by decide)) og_w1554 d_Model_qSums_27) (og_gS (b' := 15) (og_istore_n (i := 2) (lt' := [(0, 17), (1, 0), (2, 0)]) (og_econd (b := 0) (og_cand (og_ccn og_n_eq (og_zne (tgt := 48) (og_f_Model_bad (og_aload_n (i := 0) (t := 15) (j := 0) (by rfl) (by rfl) d_Model_qSums_30) og_w1148 d_Model_qSums_31) d_Model_qSums_34 (by decide))) (og_cbeq (tgt := 48) (og_callVz (og_acons (og_aload_n (i := 0) (t := 15) (j := 0) (by rfl) (by rfl) d_Model_qSums_37) (og_anil)) (by decide) ok_Model_qGoesOn (v_Model_qGoesOn (by decide)) og_w1590 d_Model_qSums_38) d_Model_qSums_41 (by decide))) d_Model_qSums_44 d_Model_qSums_45 (by decide) d_Model_qSums_48 (by rfl)) (by rfl) (by decide) (by decide) d_Model_qSums_49) d_Model_qSums_50 (by decide))) (og_sskip)) (og_scut (og_swhile (T := 71) (F := 78) (cp0 := 53) (og_cand (og_ccn og_n_eq (og_zne (tgt := 78) (og_f_Model_bad (og_aload_n (i := 0) (t := 15) (j := 0) (by rfl) (by rfl) d_Model_qSums_53) og_w1148 d_Model_qSums_54) d_Model_qSums_57 (by decide))) (og_ccn og_n_gt (og_ile (tgt := 78) (og_f_Model_qWaits (og_aload_n (i := 0) (t := 15) (j := 0) (by rfl) (by rfl) d_Model_qSums_60) og_w1236 d_Model_qSums_61) (og_f_Model_qBase (og_aload_n (i := 0) (t := 15) (j := 0) (by rfl) (by rfl) d_Model_qSums_64) og_w1238 d_Model_qSums_65) d_Model_qSums_68 (by decide)))) (og_gS (b' := 53) (og_callVv (og_acons (og_aload_n (i := 0) (t := 15) (j := 0) (by rfl) (by rfl) d_Model_qSums_71) (og_anil)) ok_Model_qDrops (v_Model_qDrops (by decide)) og_w1586 d_Model_qSums_72) d_Model_qSums_75 (by decide)) (og_sskip)) (og_p_Model_qBase (og_aload_n (i := 0) (t := 15) (j := 0) (by rfl) (by rfl) d_Model_qSums_78) (og_iload_n (i := 1) (j := 1) (by rfl) (by rfl) d_Model_qSums_79) og_w1238 d_Model_qSums_80)))))) (by decide)) (fun _ => d_Model_qSums_83)
abbrev og_c_Model_qFact : ByteArray := prog_14_method_116_code
abbrev og_y_Model_qFact : MethodName := ⟨"OpenGravesModel", "qFact", "()V"⟩
theorem v_Model_qFact {own : String} {idx dep : Nat} (h : 8 + 1 ≤ dep) : og_sV own idx og_y_Model_qFact og_c_Model_qFact 2 2 8 dep 13 0 := ⟨⟨12, og_sl_Model, og_T_Model, 102, rfl, by decide, rfl⟩, og_w1544, (og_memP (⟨"OpenGravesModel", "qFact", "()V"⟩, 102) (List.mem_of_getElem? (i := 67) (by decide +kernel))), og_w17, og_w1545, ⟨by decide +kernel, by decide +kernel, by decide +kernel⟩, h, by decide⟩
theorem d_Model_qFact_0 : decode og_c_Model_qFact 0 = .ok (.aload_n 0, 1) := by decide +kernel
theorem d_Model_qFact_1 : decode og_c_Model_qFact 1 = .ok (.aload_n 0, 1) := by decide +kernel
theorem d_Model_qFact_2 : decode og_c_Model_qFact 2 = .ok (.getfield 188, 3) := by decide +kernel
theorem d_Model_qFact_5 : decode og_c_Model_qFact 5 = .ok (.invokevirtual 269, 3) := by decide +kernel
theorem d_Model_qFact_8 : decode og_c_Model_qFact 8 = .ok (.ifCond .eq 10, 3) := by decide +kernel
theorem d_Model_qFact_11 : decode og_c_Model_qFact 11 = .ok (.aload_n 0, 1) := by decide +kernel
theorem d_Model_qFact_12 : decode og_c_Model_qFact 12 = .ok (.bipush 13, 2) := by decide +kernel
theorem d_Model_qFact_14 : decode og_c_Model_qFact 14 = .ok (.invokevirtual 588, 3) := by decide +kernel
theorem d_Model_qFact_17 : decode og_c_Model_qFact 17 = .ok (.return_, 1) := by decide +kernel
theorem d_Model_qFact_18 : decode og_c_Model_qFact 18 = .ok (.aload_n 0, 1) := by decide +kernel
theorem d_Model_qFact_19 : decode og_c_Model_qFact 19 = .ok (.invokevirtual 341, 3) := by decide +kernel
theorem d_Model_qFact_22 : decode og_c_Model_qFact 22 = .ok (.aload_n 0, 1) := by decide +kernel
theorem d_Model_qFact_23 : decode og_c_Model_qFact 23 = .ok (.getfield 242, 3) := by decide +kernel
theorem d_Model_qFact_26 : decode og_c_Model_qFact 26 = .ok (.ifCond .eq 4, 3) := by decide +kernel
theorem d_Model_qFact_29 : decode og_c_Model_qFact 29 = .ok (.return_, 1) := by decide +kernel
theorem d_Model_qFact_30 : decode og_c_Model_qFact 30 = .ok (.aload_n 0, 1) := by decide +kernel
theorem d_Model_qFact_31 : decode og_c_Model_qFact 31 = .ok (.invokevirtual 254, 3) := by decide +kernel
theorem d_Model_qFact_34 : decode og_c_Model_qFact 34 = .ok (.istore_n 1, 1) := by decide +kernel
theorem d_Model_qFact_35 : decode og_c_Model_qFact 35 = .ok (.iload_n 1, 1) := by decide +kernel
theorem d_Model_qFact_36 : decode og_c_Model_qFact 36 = .ok (.bipush 60, 2) := by decide +kernel
theorem d_Model_qFact_38 : decode og_c_Model_qFact 38 = .ok (.if_icmp .eq 25, 3) := by decide +kernel
theorem d_Model_qFact_41 : decode og_c_Model_qFact 41 = .ok (.iload_n 1, 1) := by decide +kernel
theorem d_Model_qFact_42 : decode og_c_Model_qFact 42 = .ok (.bipush 62, 2) := by decide +kernel
theorem d_Model_qFact_44 : decode og_c_Model_qFact 44 = .ok (.if_icmp .eq 19, 3) := by decide +kernel
theorem d_Model_qFact_47 : decode og_c_Model_qFact 47 = .ok (.iload_n 1, 1) := by decide +kernel
theorem d_Model_qFact_48 : decode og_c_Model_qFact 48 = .ok (.bipush 61, 2) := by decide +kernel
theorem d_Model_qFact_50 : decode og_c_Model_qFact 50 = .ok (.if_icmp .eq 13, 3) := by decide +kernel
theorem d_Model_qFact_53 : decode og_c_Model_qFact 53 = .ok (.aload_n 0, 1) := by decide +kernel
theorem d_Model_qFact_54 : decode og_c_Model_qFact 54 = .ok (.iconst 1, 1) := by decide +kernel
theorem d_Model_qFact_55 : decode og_c_Model_qFact 55 = .ok (.aload_n 0, 1) := by decide +kernel
theorem d_Model_qFact_56 : decode og_c_Model_qFact 56 = .ok (.getfield 248, 3) := by decide +kernel
theorem d_Model_qFact_59 : decode og_c_Model_qFact 59 = .ok (.invokevirtual 272, 3) := by decide +kernel
theorem d_Model_qFact_62 : decode og_c_Model_qFact 62 = .ok (.return_, 1) := by decide +kernel
theorem d_Model_qFact_63 : decode og_c_Model_qFact 63 = .ok (.aload_n 0, 1) := by decide +kernel
theorem d_Model_qFact_64 : decode og_c_Model_qFact 64 = .ok (.dup, 1) := by decide +kernel
theorem d_Model_qFact_65 : decode og_c_Model_qFact 65 = .ok (.getfield 248, 3) := by decide +kernel
theorem d_Model_qFact_68 : decode og_c_Model_qFact 68 = .ok (.iconst 1, 1) := by decide +kernel
theorem d_Model_qFact_69 : decode og_c_Model_qFact 69 = .ok (.iadd, 1) := by decide +kernel
theorem d_Model_qFact_70 : decode og_c_Model_qFact 70 = .ok (.putfield 248, 3) := by decide +kernel
theorem d_Model_qFact_73 : decode og_c_Model_qFact 73 = .ok (.aload_n 0, 1) := by decide +kernel
theorem d_Model_qFact_74 : decode og_c_Model_qFact 74 = .ok (.invokevirtual 341, 3) := by decide +kernel
theorem d_Model_qFact_77 : decode og_c_Model_qFact 77 = .ok (.aload_n 0, 1) := by decide +kernel
theorem d_Model_qFact_78 : decode og_c_Model_qFact 78 = .ok (.iload_n 1, 1) := by decide +kernel
theorem d_Model_qFact_79 : decode og_c_Model_qFact 79 = .ok (.bipush 60, 2) := by decide +kernel
theorem d_Model_qFact_81 : decode og_c_Model_qFact 81 = .ok (.if_icmp .ne 8, 3) := by decide +kernel
theorem d_Model_qFact_84 : decode og_c_Model_qFact 84 = .ok (.bipush 7, 2) := by decide +kernel
theorem d_Model_qFact_86 : decode og_c_Model_qFact 86 = .ok (.goto 16, 3) := by decide +kernel
theorem d_Model_qFact_89 : decode og_c_Model_qFact 89 = .ok (.iload_n 1, 1) := by decide +kernel
theorem d_Model_qFact_90 : decode og_c_Model_qFact 90 = .ok (.bipush 62, 2) := by decide +kernel
theorem d_Model_qFact_92 : decode og_c_Model_qFact 92 = .ok (.if_icmp .ne 8, 3) := by decide +kernel
theorem d_Model_qFact_95 : decode og_c_Model_qFact 95 = .ok (.bipush 8, 2) := by decide +kernel
theorem d_Model_qFact_97 : decode og_c_Model_qFact 97 = .ok (.goto 5, 3) := by decide +kernel
theorem d_Model_qFact_100 : decode og_c_Model_qFact 100 = .ok (.bipush 9, 2) := by decide +kernel
theorem d_Model_qFact_102 : decode og_c_Model_qFact 102 = .ok (.invokevirtual 588, 3) := by decide +kernel
theorem d_Model_qFact_105 : decode og_c_Model_qFact 105 = .ok (.return_, 1) := by decide +kernel
def m_Model_qFact : og_Dn := og_den [17] 2 2 (og_seq (og_if (og_cb (og_call m_Model_takes [og_loc 0, og_fix (fun _ => 1057) (og_loc 0)])) (og_seq (og_exp (og_call m_Model_qCode [og_loc 0, og_k 13])) (og_retv)) (og_skip)) (og_seq (og_exp (og_call m_Model_qSums [og_loc 0])) (og_seq (og_if (og_cc og_rne (og_get 5 (og_loc 0)) (og_k 0)) (og_retv) (og_skip)) (og_seq (og_set 1 (og_call m_Model_look [og_loc 0])) (og_seq (og_if (og_and (og_and (og_cc og_rne (og_loc 1) (og_k 60)) (og_cc og_rne (og_loc 1) (og_k 62))) (og_cc og_rne (og_loc 1) (og_k 61))) (og_seq (og_exp (og_call m_Model_fail [og_loc 0, og_k 1, og_get 2 (og_loc 0)])) (og_retv)) (og_skip)) (og_seq (og_pop32 og_padd 2 (og_loc 0) (og_k 1)) (og_seq (og_exp (og_call m_Model_qSums [og_loc 0])) (og_exp (og_call m_Model_qCode [og_loc 0, og_ei (og_cc og_req (og_loc 1) (og_k 60)) (og_k 7) (og_ei (og_cc og_req (og_loc 1) (og_k 62)) (og_k 8) (og_k 9))])))))))))
set_option maxRecDepth 20000 in
theorem ok_Model_qFact : og_MOK og_y_Model_qFact og_c_Model_qFact 2 2 8 [17] m_Model_qFact := og_method (b := 105) (lt' := [(0, 17)]) (by decide +kernel) (by decide) (by decide) (og_sdrop (lt' := [(0, 17), (1, 0)]) (lt2 := [(0, 17)]) (og_sseq (og_sif (T := 11) (F := 18) (og_cbeq (tgt := 18) (og_callVz (og_acons (og_aload_n (i := 0) (t := 15) (j := 0) (by rfl) (by rfl) d_Model_qFact_0) (og_acons (og_genc (og_f_Model_allAsked (og_aload_n (i := 0) (t := 15) (j := 0) (by rfl) (by rfl) d_Model_qFact_1) og_w1220 d_Model_qFact_2) (by rfl)) (og_anil))) (by decide) ok_Model_takes (v_Model_takes (by decide)) og_w1472 d_Model_qFact_5) d_Model_qFact_8 (by decide)) (og_sseq (og_callVv (og_acons (og_aload_n (i := 0) (t := 15) (j := 0) (by rfl) (by rfl) d_Model_qFact_11) (og_acons (og_bipush (by decide) d_Model_qFact_12) (og_anil))) ok_Model_qCode (v_Model_qCode (by decide)) og_w1546 d_Model_qFact_14) (og_sretv d_Model_qFact_17)) (og_sskip)) (og_sseq (og_callVv (og_acons (og_aload_n (i := 0) (t := 15) (j := 0) (by rfl) (by rfl) d_Model_qFact_18) (og_anil)) ok_Model_qSums (v_Model_qSums (by decide)) og_w1550 d_Model_qFact_19) (og_sseq (og_sif (T := 29) (F := 30) (og_ccn og_n_ne (og_zeq (tgt := 30) (og_f_Model_bad (og_aload_n (i := 0) (t := 15) (j := 0) (by rfl) (by rfl) d_Model_qFact_22) og_w1148 d_Model_qFact_23) d_Model_qFact_26 (by decide))) (og_sretv d_Model_qFact_29) (og_sskip)) (og_sseq (og_istore_n (i := 1) (lt' := [(0, 17), (1, 0)]) (og_callVi (og_acons (og_aload_n (i := 0) (t := 15) (j := 0) (by rfl) (by rfl) d_Model_qFact_30) (og_anil)) (by decide) ok_Model_look (v_Model_look (by decide)) og_w1464 d_Model_qFact_31) (by rfl) (by decide) (by decide) d_Model_qFact_34) (og_sseq (og_sif (T := 53) (F := 63) (og_cand (og_cand (og_ccn og_n_ne (og_ieq (tgt := 63) (og_iload_n (i := 1) (j := 1) (by rfl) (by rfl) d_Model_qFact_35) (og_bipush (by decide) d_Model_qFact_36) d_Model_qFact_38 (by decide))) (og_ccn og_n_ne (og_ieq (tgt := 63) (og_iload_n (i := 1) (j := 1) (by rfl) (by rfl) d_Model_qFact_41) (og_bipush (by decide) d_Model_qFact_42) d_Model_qFact_44 (by decide)))) (og_ccn og_n_ne (og_ieq (tgt := 63) (og_iload_n (i := 1) (j := 1) (by rfl) (by rfl) d_Model_qFact_47) (og_bipush (by decide) d_Model_qFact_48) d_Model_qFact_50 (by decide)))) (og_sseq (og_callVv (og_acons (og_aload_n (i := 0) (t := 15) (j := 0) (by rfl) (by rfl) d_Model_qFact_53) (og_acons (og_iconst (by decide) d_Model_qFact_54) (og_acons (og_f_Model_at (og_aload_n (i := 0) (t := 15) (j := 0) (by rfl) (by rfl) d_Model_qFact_55) og_w1145 d_Model_qFact_56) (og_anil)))) ok_Model_fail (v_Model_fail (by decide)) og_w1491 d_Model_qFact_59) (og_sretv d_Model_qFact_62)) (og_sskip)) (og_sseq (og_qadd_Model_at (og_aload_n (i := 0) (t := 15) (j := 0) (by rfl) (by rfl) d_Model_qFact_63) d_Model_qFact_64 d_Model_qFact_65 (og_iconst (by decide) d_Model_qFact_68) d_Model_qFact_69 og_w1145 d_Model_qFact_70) (og_sseq (og_callVv (og_acons (og_aload_n (i := 0) (t := 15) (j := 0) (by rfl) (by rfl) d_Model_qFact_73) (og_anil)) ok_Model_qSums (v_Model_qSums (by decide)) og_w1550 d_Model_qFact_74) (og_callVv (og_acons (og_aload_n (i := 0) (t := 15) (j := 0) (by rfl) (by rfl) d_Model_qFact_77) (og_acons (og_eite (og_ccn og_n_eq (og_ine (tgt := 89) (og_iload_n (i := 1) (j := 1) (by rfl) (by rfl) d_Model_qFact_78) (og_bipush (by decide) d_Model_qFact_79) d_Model_qFact_81 (by decide))) (og_bipush (by decide) d_Model_qFact_84) d_Model_qFact_86 (by decide) (og_eite (og_ccn og_n_eq (og_ine (tgt := 100) (og_iload_n (i := 1) (j := 1) (by rfl) (by rfl) d_Model_qFact_89) (og_bipush (by decide) d_Model_qFact_90) d_Model_qFact_92 (by decide))) (og_bipush (by decide) d_Model_qFact_95) d_Model_qFact_97 (by decide) (og_bipush (by decide) d_Model_qFact_100))) (og_anil))) ok_Model_qCode (v_Model_qCode (by decide)) og_w1546 d_Model_qFact_102)))))))) (by decide)) (fun _ => d_Model_qFact_105)
abbrev og_c_Model_qDropsNots : ByteArray := prog_14_method_118_code
abbrev og_y_Model_qDropsNots : MethodName := ⟨"OpenGravesModel", "qDropsNots", "()V"⟩
theorem v_Model_qDropsNots {own : String} {idx dep : Nat} (h : 3 + 1 ≤ dep) : og_sV own idx og_y_Model_qDropsNots og_c_Model_qDropsNots 1 2 3 dep 13 0 := ⟨⟨12, og_sl_Model, og_T_Model, 102, rfl, by decide, rfl⟩, og_w1611, (og_memP (⟨"OpenGravesModel", "qDropsNots", "()V"⟩, 102) (List.mem_of_getElem? (i := 83) (by decide +kernel))), og_w17, og_w1612, ⟨by decide +kernel, by decide +kernel, by decide +kernel⟩, h, by decide⟩
theorem d_Model_qDropsNots_0 : decode og_c_Model_qDropsNots 0 = .ok (.aload_n 0, 1) := by decide +kernel
theorem d_Model_qDropsNots_1 : decode og_c_Model_qDropsNots 1 = .ok (.getfield 242, 3) := by decide +kernel
theorem d_Model_qDropsNots_4 : decode og_c_Model_qDropsNots 4 = .ok (.ifCond .ne 29, 3) := by decide +kernel
theorem d_Model_qDropsNots_7 : decode og_c_Model_qDropsNots 7 = .ok (.aload_n 0, 1) := by decide +kernel
theorem d_Model_qDropsNots_8 : decode og_c_Model_qDropsNots 8 = .ok (.bipush 12, 2) := by decide +kernel
theorem d_Model_qDropsNots_10 : decode og_c_Model_qDropsNots 10 = .ok (.invokevirtual 621, 3) := by decide +kernel
theorem d_Model_qDropsNots_13 : decode og_c_Model_qDropsNots 13 = .ok (.ifCond .eq 20, 3) := by decide +kernel
theorem d_Model_qDropsNots_16 : decode og_c_Model_qDropsNots 16 = .ok (.aload_n 0, 1) := by decide +kernel
theorem d_Model_qDropsNots_17 : decode og_c_Model_qDropsNots 17 = .ok (.dup, 1) := by decide +kernel
theorem d_Model_qDropsNots_18 : decode og_c_Model_qDropsNots 18 = .ok (.getfield 332, 3) := by decide +kernel
theorem d_Model_qDropsNots_21 : decode og_c_Model_qDropsNots 21 = .ok (.iconst 1, 1) := by decide +kernel
theorem d_Model_qDropsNots_22 : decode og_c_Model_qDropsNots 22 = .ok (.isub, 1) := by decide +kernel
theorem d_Model_qDropsNots_23 : decode og_c_Model_qDropsNots 23 = .ok (.putfield 332, 3) := by decide +kernel
theorem d_Model_qDropsNots_26 : decode og_c_Model_qDropsNots 26 = .ok (.aload_n 0, 1) := by decide +kernel
theorem d_Model_qDropsNots_27 : decode og_c_Model_qDropsNots 27 = .ok (.invokevirtual 594, 3) := by decide +kernel
theorem d_Model_qDropsNots_30 : decode og_c_Model_qDropsNots 30 = .ok (.goto (-30), 3) := by decide +kernel
theorem d_Model_qDropsNots_33 : decode og_c_Model_qDropsNots 33 = .ok (.return_, 1) := by decide +kernel
def m_Model_qDropsNots : og_Dn := og_den [17] 1 2 (og_while (og_and (og_cc og_req (og_get 5 (og_loc 0)) (og_k 0)) (og_cb (og_call m_Model_qIsOn [og_loc 0, og_k 12]))) (og_seq (og_pop32 og_psub 94 (og_loc 0) (og_k 1)) (og_exp (og_call m_Model_qDrops [og_loc 0]))) (og_skip))
set_option maxRecDepth 20000 in
theorem ok_Model_qDropsNots : og_MOK og_y_Model_qDropsNots og_c_Model_qDropsNots 1 2 3 [17] m_Model_qDropsNots := og_method (b := 33) (lt' := [(0, 17)]) (by decide +kernel) (by decide) (by decide) (og_swhile (T := 16) (F := 33) (cp0 := 0) (og_cand (og_ccn og_n_eq (og_zne (tgt := 33) (og_f_Model_bad (og_aload_n (i := 0) (t := 15) (j := 0) (by rfl) (by rfl) d_Model_qDropsNots_0) og_w1148 d_Model_qDropsNots_1) d_Model_qDropsNots_4 (by decide))) (og_cbeq (tgt := 33) (og_callVz (og_acons (og_aload_n (i := 0) (t := 15) (j := 0) (by rfl) (by rfl) d_Model_qDropsNots_7) (og_acons (og_bipush (by decide) d_Model_qDropsNots_8) (og_anil))) (by decide) ok_Model_qIsOn (v_Model_qIsOn (by decide)) og_w1605 d_Model_qDropsNots_10) d_Model_qDropsNots_13 (by decide))) (og_sseq (og_qsub_Model_qOpened (og_aload_n (i := 0) (t := 15) (j := 0) (by rfl) (by rfl) d_Model_qDropsNots_16) d_Model_qDropsNots_17 d_Model_qDropsNots_18 (og_iconst (by decide) d_Model_qDropsNots_21) d_Model_qDropsNots_22 og_w1237 d_Model_qDropsNots_23) (og_gS (b' := 0) (og_callVv (og_acons (og_aload_n (i := 0) (t := 15) (j := 0) (by rfl) (by rfl) d_Model_qDropsNots_26) (og_anil)) ok_Model_qDrops (v_Model_qDrops (by decide)) og_w1586 d_Model_qDropsNots_27) d_Model_qDropsNots_30 (by decide))) (og_sskip)) (fun _ => d_Model_qDropsNots_33)
abbrev og_c_Model_qHasSquare : ByteArray := prog_14_method_117_code
abbrev og_y_Model_qHasSquare : MethodName := ⟨"OpenGravesModel", "qHasSquare", "()Z"⟩
theorem v_Model_qHasSquare {own : String} {idx dep : Nat} (h : 1 + 1 ≤ dep) : og_sV own idx og_y_Model_qHasSquare og_c_Model_qHasSquare 2 3 1 dep 13 0 := ⟨⟨12, og_sl_Model, og_T_Model, 102, rfl, by decide, rfl⟩, og_w1619, (og_memP (⟨"OpenGravesModel", "qHasSquare", "()Z"⟩, 102) (List.mem_of_getElem? (i := 85) (by decide +kernel))), og_w17, og_w1620, ⟨by decide +kernel, by decide +kernel, by decide +kernel⟩, h, by decide⟩
theorem d_Model_qHasSquare_0 : decode og_c_Model_qHasSquare 0 = .ok (.iconst 0, 1) := by decide +kernel
theorem d_Model_qHasSquare_1 : decode og_c_Model_qHasSquare 1 = .ok (.istore_n 1, 1) := by decide +kernel
theorem d_Model_qHasSquare_2 : decode og_c_Model_qHasSquare 2 = .ok (.iload_n 1, 1) := by decide +kernel
theorem d_Model_qHasSquare_3 : decode og_c_Model_qHasSquare 3 = .ok (.aload_n 0, 1) := by decide +kernel
theorem d_Model_qHasSquare_4 : decode og_c_Model_qHasSquare 4 = .ok (.getfield 329, 3) := by decide +kernel
theorem d_Model_qHasSquare_7 : decode og_c_Model_qHasSquare 7 = .ok (.if_icmp .ge 22, 3) := by decide +kernel
theorem d_Model_qHasSquare_10 : decode og_c_Model_qHasSquare 10 = .ok (.aload_n 0, 1) := by decide +kernel
theorem d_Model_qHasSquare_11 : decode og_c_Model_qHasSquare 11 = .ok (.getfield 230, 3) := by decide +kernel
theorem d_Model_qHasSquare_14 : decode og_c_Model_qHasSquare 14 = .ok (.iload_n 1, 1) := by decide +kernel
theorem d_Model_qHasSquare_15 : decode og_c_Model_qHasSquare 15 = .ok (.iaload, 1) := by decide +kernel
theorem d_Model_qHasSquare_16 : decode og_c_Model_qHasSquare 16 = .ok (.bipush 25, 2) := by decide +kernel
theorem d_Model_qHasSquare_18 : decode og_c_Model_qHasSquare 18 = .ok (.if_icmp .ne 5, 3) := by decide +kernel
theorem d_Model_qHasSquare_21 : decode og_c_Model_qHasSquare 21 = .ok (.iconst 1, 1) := by decide +kernel
theorem d_Model_qHasSquare_22 : decode og_c_Model_qHasSquare 22 = .ok (.ireturn, 1) := by decide +kernel
theorem d_Model_qHasSquare_23 : decode og_c_Model_qHasSquare 23 = .ok (.iinc 1 1, 3) := by decide +kernel
theorem d_Model_qHasSquare_26 : decode og_c_Model_qHasSquare 26 = .ok (.goto (-24), 3) := by decide +kernel
theorem d_Model_qHasSquare_29 : decode og_c_Model_qHasSquare 29 = .ok (.iconst 0, 1) := by decide +kernel
theorem d_Model_qHasSquare_30 : decode og_c_Model_qHasSquare 30 = .ok (.ireturn, 1) := by decide +kernel
def m_Model_qHasSquare : og_Dn := og_den [17] 2 3 (og_cut (og_seq (og_set 1 (og_k 0)) (og_while (og_cc og_rlt (og_loc 1) (og_get 93 (og_loc 0))) (og_if (og_cc og_req (og_ald 1700 (og_fix (fun _ => 1071) (og_loc 0)) (og_loc 1)) (og_k 25)) (og_retz (og_k 1)) (og_skip)) (og_inc 1 1))) (og_retz (og_k 0)))
set_option maxRecDepth 20000 in
theorem ok_Model_qHasSquare : og_MOK og_y_Model_qHasSquare og_c_Model_qHasSquare 2 3 1 [17] m_Model_qHasSquare := og_method (b := 0) (lt' := []) (by decide +kernel) (by decide) (by decide) (og_scut (og_sdrop (lt' := [(0, 17), (1, 0)]) (lt2 := [(0, 17)]) (og_sseq (og_istore_n (i := 1) (lt' := [(0, 17), (1, 0)]) (og_iconst (by decide) d_Model_qHasSquare_0) (by rfl) (by decide) (by decide) d_Model_qHasSquare_1) (og_swhile (T := 10) (F := 29) (cp0 := 23) (og_ccn og_n_lt (og_ige (tgt := 29) (og_iload_n (i := 1) (j := 1) (by rfl) (by rfl) d_Model_qHasSquare_2) (og_f_Model_qWaits (og_aload_n (i := 0) (t := 15) (j := 0) (by rfl) (by rfl) d_Model_qHasSquare_3) og_w1236 d_Model_qHasSquare_4) d_Model_qHasSquare_7 (by decide))) (og_sif (T := 21) (F := 23) (og_ccn og_n_eq (og_ine (tgt := 23) (og_iald (N := 1700) (og_f_Model_qWait (og_aload_n (i := 0) (t := 15) (j := 0) (by rfl) (by rfl) d_Model_qHasSquare_10) og_w1235 d_Model_qHasSquare_11) (by rfl) (og_iload_n (i := 1) (j := 1) (by rfl) (by rfl) d_Model_qHasSquare_14) d_Model_qHasSquare_15) (og_bipush (by decide) d_Model_qHasSquare_16) d_Model_qHasSquare_18 (by decide))) (og_sretz (og_iconst (by decide) d_Model_qHasSquare_21) d_Model_qHasSquare_22) (og_sskip)) (og_gS (b' := 2) (og_iinc (j := 1) (lt' := [(0, 17), (1, 0)]) (by rfl) (by decide) (by decide) d_Model_qHasSquare_23) d_Model_qHasSquare_26 (by decide)))) (by decide)) (og_sretz (og_iconst (by decide) d_Model_qHasSquare_29) d_Model_qHasSquare_30)) (fun h => by cases h)
abbrev og_c_Model_qGoesOnTest : ByteArray := prog_14_method_120_code
abbrev og_y_Model_qGoesOnTest : MethodName := ⟨"OpenGravesModel", "qGoesOnTest", "()Z"⟩
theorem v_Model_qGoesOnTest {own : String} {idx dep : Nat} (h : 4 + 1 ≤ dep) : og_sV own idx og_y_Model_qGoesOnTest og_c_Model_qGoesOnTest 1 3 4 dep 13 0 := ⟨⟨12, og_sl_Model, og_T_Model, 102, rfl, by decide, rfl⟩, og_w1615, (og_memP (⟨"OpenGravesModel", "qGoesOnTest", "()Z"⟩, 102) (List.mem_of_getElem? (i := 84) (by decide +kernel))), og_w17, og_w1616, ⟨by decide +kernel, by decide +kernel, by decide +kernel⟩, h, by decide⟩
theorem d_Model_qGoesOnTest_0 : decode og_c_Model_qGoesOnTest 0 = .ok (.aload_n 0, 1) := by decide +kernel
theorem d_Model_qGoesOnTest_1 : decode og_c_Model_qGoesOnTest 1 = .ok (.getfield 242, 3) := by decide +kernel
theorem d_Model_qGoesOnTest_4 : decode og_c_Model_qGoesOnTest 4 = .ok (.ifCond .ne 72, 3) := by decide +kernel
theorem d_Model_qGoesOnTest_7 : decode og_c_Model_qGoesOnTest 7 = .ok (.aload_n 0, 1) := by decide +kernel
theorem d_Model_qGoesOnTest_8 : decode og_c_Model_qGoesOnTest 8 = .ok (.invokevirtual 254, 3) := by decide +kernel
theorem d_Model_qGoesOnTest_11 : decode og_c_Model_qGoesOnTest 11 = .ok (.bipush 93, 2) := by decide +kernel
theorem d_Model_qGoesOnTest_13 : decode og_c_Model_qGoesOnTest 13 = .ok (.if_icmp .ne 63, 3) := by decide +kernel
theorem d_Model_qGoesOnTest_16 : decode og_c_Model_qGoesOnTest 16 = .ok (.aload_n 0, 1) := by decide +kernel
theorem d_Model_qGoesOnTest_17 : decode og_c_Model_qGoesOnTest 17 = .ok (.invokevirtual 639, 3) := by decide +kernel
theorem d_Model_qGoesOnTest_20 : decode og_c_Model_qGoesOnTest 20 = .ok (.ifCond .eq 56, 3) := by decide +kernel
theorem d_Model_qGoesOnTest_23 : decode og_c_Model_qGoesOnTest 23 = .ok (.aload_n 0, 1) := by decide +kernel
theorem d_Model_qGoesOnTest_24 : decode og_c_Model_qGoesOnTest 24 = .ok (.dup, 1) := by decide +kernel
theorem d_Model_qGoesOnTest_25 : decode og_c_Model_qGoesOnTest 25 = .ok (.getfield 248, 3) := by decide +kernel
theorem d_Model_qGoesOnTest_28 : decode og_c_Model_qGoesOnTest 28 = .ok (.iconst 1, 1) := by decide +kernel
theorem d_Model_qGoesOnTest_29 : decode og_c_Model_qGoesOnTest 29 = .ok (.iadd, 1) := by decide +kernel
theorem d_Model_qGoesOnTest_30 : decode og_c_Model_qGoesOnTest 30 = .ok (.putfield 248, 3) := by decide +kernel
theorem d_Model_qGoesOnTest_33 : decode og_c_Model_qGoesOnTest 33 = .ok (.aload_n 0, 1) := by decide +kernel
theorem d_Model_qGoesOnTest_34 : decode og_c_Model_qGoesOnTest 34 = .ok (.bipush 25, 2) := by decide +kernel
theorem d_Model_qGoesOnTest_36 : decode og_c_Model_qGoesOnTest 36 = .ok (.invokevirtual 621, 3) := by decide +kernel
theorem d_Model_qGoesOnTest_39 : decode og_c_Model_qGoesOnTest 39 = .ok (.ifCond .ne 10, 3) := by decide +kernel
theorem d_Model_qGoesOnTest_42 : decode og_c_Model_qGoesOnTest 42 = .ok (.aload_n 0, 1) := by decide +kernel
theorem d_Model_qGoesOnTest_43 : decode og_c_Model_qGoesOnTest 43 = .ok (.invokevirtual 594, 3) := by decide +kernel
theorem d_Model_qGoesOnTest_46 : decode og_c_Model_qGoesOnTest 46 = .ok (.goto (-13), 3) := by decide +kernel
theorem d_Model_qGoesOnTest_49 : decode og_c_Model_qGoesOnTest 49 = .ok (.aload_n 0, 1) := by decide +kernel
theorem d_Model_qGoesOnTest_50 : decode og_c_Model_qGoesOnTest 50 = .ok (.dup, 1) := by decide +kernel
theorem d_Model_qGoesOnTest_51 : decode og_c_Model_qGoesOnTest 51 = .ok (.getfield 329, 3) := by decide +kernel
theorem d_Model_qGoesOnTest_54 : decode og_c_Model_qGoesOnTest 54 = .ok (.iconst 1, 1) := by decide +kernel
theorem d_Model_qGoesOnTest_55 : decode og_c_Model_qGoesOnTest 55 = .ok (.isub, 1) := by decide +kernel
theorem d_Model_qGoesOnTest_56 : decode og_c_Model_qGoesOnTest 56 = .ok (.putfield 329, 3) := by decide +kernel
theorem d_Model_qGoesOnTest_59 : decode og_c_Model_qGoesOnTest 59 = .ok (.aload_n 0, 1) := by decide +kernel
theorem d_Model_qGoesOnTest_60 : decode og_c_Model_qGoesOnTest 60 = .ok (.dup, 1) := by decide +kernel
theorem d_Model_qGoesOnTest_61 : decode og_c_Model_qGoesOnTest 61 = .ok (.getfield 332, 3) := by decide +kernel
theorem d_Model_qGoesOnTest_64 : decode og_c_Model_qGoesOnTest 64 = .ok (.iconst 1, 1) := by decide +kernel
theorem d_Model_qGoesOnTest_65 : decode og_c_Model_qGoesOnTest 65 = .ok (.isub, 1) := by decide +kernel
theorem d_Model_qGoesOnTest_66 : decode og_c_Model_qGoesOnTest 66 = .ok (.putfield 332, 3) := by decide +kernel
theorem d_Model_qGoesOnTest_69 : decode og_c_Model_qGoesOnTest 69 = .ok (.aload_n 0, 1) := by decide +kernel
theorem d_Model_qGoesOnTest_70 : decode og_c_Model_qGoesOnTest 70 = .ok (.invokevirtual 633, 3) := by decide +kernel
theorem d_Model_qGoesOnTest_73 : decode og_c_Model_qGoesOnTest 73 = .ok (.goto (-73), 3) := by decide +kernel
theorem d_Model_qGoesOnTest_76 : decode og_c_Model_qGoesOnTest 76 = .ok (.aload_n 0, 1) := by decide +kernel
theorem d_Model_qGoesOnTest_77 : decode og_c_Model_qGoesOnTest 77 = .ok (.aload_n 0, 1) := by decide +kernel
theorem d_Model_qGoesOnTest_78 : decode og_c_Model_qGoesOnTest 78 = .ok (.getfield 182, 3) := by decide +kernel
theorem d_Model_qGoesOnTest_81 : decode og_c_Model_qGoesOnTest 81 = .ok (.invokevirtual 269, 3) := by decide +kernel
theorem d_Model_qGoesOnTest_84 : decode og_c_Model_qGoesOnTest 84 = .ok (.ifCond .eq 42, 3) := by decide +kernel
theorem d_Model_qGoesOnTest_87 : decode og_c_Model_qGoesOnTest 87 = .ok (.aload_n 0, 1) := by decide +kernel
theorem d_Model_qGoesOnTest_88 : decode og_c_Model_qGoesOnTest 88 = .ok (.bipush 10, 2) := by decide +kernel
theorem d_Model_qGoesOnTest_90 : decode og_c_Model_qGoesOnTest 90 = .ok (.invokevirtual 621, 3) := by decide +kernel
theorem d_Model_qGoesOnTest_93 : decode og_c_Model_qGoesOnTest 93 = .ok (.ifCond .eq 10, 3) := by decide +kernel
theorem d_Model_qGoesOnTest_96 : decode og_c_Model_qGoesOnTest 96 = .ok (.aload_n 0, 1) := by decide +kernel
theorem d_Model_qGoesOnTest_97 : decode og_c_Model_qGoesOnTest 97 = .ok (.invokevirtual 594, 3) := by decide +kernel
theorem d_Model_qGoesOnTest_100 : decode og_c_Model_qGoesOnTest 100 = .ok (.goto (-13), 3) := by decide +kernel
theorem d_Model_qGoesOnTest_103 : decode og_c_Model_qGoesOnTest 103 = .ok (.aload_n 0, 1) := by decide +kernel
theorem d_Model_qGoesOnTest_104 : decode og_c_Model_qGoesOnTest 104 = .ok (.getfield 230, 3) := by decide +kernel
theorem d_Model_qGoesOnTest_107 : decode og_c_Model_qGoesOnTest 107 = .ok (.aload_n 0, 1) := by decide +kernel
theorem d_Model_qGoesOnTest_108 : decode og_c_Model_qGoesOnTest 108 = .ok (.getfield 329, 3) := by decide +kernel
theorem d_Model_qGoesOnTest_111 : decode og_c_Model_qGoesOnTest 111 = .ok (.bipush 10, 2) := by decide +kernel
theorem d_Model_qGoesOnTest_113 : decode og_c_Model_qGoesOnTest 113 = .ok (.iastore, 1) := by decide +kernel
theorem d_Model_qGoesOnTest_114 : decode og_c_Model_qGoesOnTest 114 = .ok (.aload_n 0, 1) := by decide +kernel
theorem d_Model_qGoesOnTest_115 : decode og_c_Model_qGoesOnTest 115 = .ok (.dup, 1) := by decide +kernel
theorem d_Model_qGoesOnTest_116 : decode og_c_Model_qGoesOnTest 116 = .ok (.getfield 329, 3) := by decide +kernel
theorem d_Model_qGoesOnTest_119 : decode og_c_Model_qGoesOnTest 119 = .ok (.iconst 1, 1) := by decide +kernel
theorem d_Model_qGoesOnTest_120 : decode og_c_Model_qGoesOnTest 120 = .ok (.iadd, 1) := by decide +kernel
theorem d_Model_qGoesOnTest_121 : decode og_c_Model_qGoesOnTest 121 = .ok (.putfield 329, 3) := by decide +kernel
theorem d_Model_qGoesOnTest_124 : decode og_c_Model_qGoesOnTest 124 = .ok (.iconst 1, 1) := by decide +kernel
theorem d_Model_qGoesOnTest_125 : decode og_c_Model_qGoesOnTest 125 = .ok (.ireturn, 1) := by decide +kernel
theorem d_Model_qGoesOnTest_126 : decode og_c_Model_qGoesOnTest 126 = .ok (.aload_n 0, 1) := by decide +kernel
theorem d_Model_qGoesOnTest_127 : decode og_c_Model_qGoesOnTest 127 = .ok (.aload_n 0, 1) := by decide +kernel
theorem d_Model_qGoesOnTest_128 : decode og_c_Model_qGoesOnTest 128 = .ok (.getfield 185, 3) := by decide +kernel
theorem d_Model_qGoesOnTest_131 : decode og_c_Model_qGoesOnTest 131 = .ok (.invokevirtual 269, 3) := by decide +kernel
theorem d_Model_qGoesOnTest_134 : decode og_c_Model_qGoesOnTest 134 = .ok (.ifCond .eq 51, 3) := by decide +kernel
theorem d_Model_qGoesOnTest_137 : decode og_c_Model_qGoesOnTest 137 = .ok (.aload_n 0, 1) := by decide +kernel
theorem d_Model_qGoesOnTest_138 : decode og_c_Model_qGoesOnTest 138 = .ok (.bipush 10, 2) := by decide +kernel
theorem d_Model_qGoesOnTest_140 : decode og_c_Model_qGoesOnTest 140 = .ok (.invokevirtual 621, 3) := by decide +kernel
theorem d_Model_qGoesOnTest_143 : decode og_c_Model_qGoesOnTest 143 = .ok (.ifCond .ne 12, 3) := by decide +kernel
theorem d_Model_qGoesOnTest_146 : decode og_c_Model_qGoesOnTest 146 = .ok (.aload_n 0, 1) := by decide +kernel
theorem d_Model_qGoesOnTest_147 : decode og_c_Model_qGoesOnTest 147 = .ok (.bipush 11, 2) := by decide +kernel
theorem d_Model_qGoesOnTest_149 : decode og_c_Model_qGoesOnTest 149 = .ok (.invokevirtual 621, 3) := by decide +kernel
theorem d_Model_qGoesOnTest_152 : decode og_c_Model_qGoesOnTest 152 = .ok (.ifCond .eq 10, 3) := by decide +kernel
theorem d_Model_qGoesOnTest_155 : decode og_c_Model_qGoesOnTest 155 = .ok (.aload_n 0, 1) := by decide +kernel
theorem d_Model_qGoesOnTest_156 : decode og_c_Model_qGoesOnTest 156 = .ok (.invokevirtual 594, 3) := by decide +kernel
theorem d_Model_qGoesOnTest_159 : decode og_c_Model_qGoesOnTest 159 = .ok (.goto (-22), 3) := by decide +kernel
theorem d_Model_qGoesOnTest_162 : decode og_c_Model_qGoesOnTest 162 = .ok (.aload_n 0, 1) := by decide +kernel
theorem d_Model_qGoesOnTest_163 : decode og_c_Model_qGoesOnTest 163 = .ok (.getfield 230, 3) := by decide +kernel
theorem d_Model_qGoesOnTest_166 : decode og_c_Model_qGoesOnTest 166 = .ok (.aload_n 0, 1) := by decide +kernel
theorem d_Model_qGoesOnTest_167 : decode og_c_Model_qGoesOnTest 167 = .ok (.getfield 329, 3) := by decide +kernel
theorem d_Model_qGoesOnTest_170 : decode og_c_Model_qGoesOnTest 170 = .ok (.bipush 11, 2) := by decide +kernel
theorem d_Model_qGoesOnTest_172 : decode og_c_Model_qGoesOnTest 172 = .ok (.iastore, 1) := by decide +kernel
theorem d_Model_qGoesOnTest_173 : decode og_c_Model_qGoesOnTest 173 = .ok (.aload_n 0, 1) := by decide +kernel
theorem d_Model_qGoesOnTest_174 : decode og_c_Model_qGoesOnTest 174 = .ok (.dup, 1) := by decide +kernel
theorem d_Model_qGoesOnTest_175 : decode og_c_Model_qGoesOnTest 175 = .ok (.getfield 329, 3) := by decide +kernel
theorem d_Model_qGoesOnTest_178 : decode og_c_Model_qGoesOnTest 178 = .ok (.iconst 1, 1) := by decide +kernel
theorem d_Model_qGoesOnTest_179 : decode og_c_Model_qGoesOnTest 179 = .ok (.iadd, 1) := by decide +kernel
theorem d_Model_qGoesOnTest_180 : decode og_c_Model_qGoesOnTest 180 = .ok (.putfield 329, 3) := by decide +kernel
theorem d_Model_qGoesOnTest_183 : decode og_c_Model_qGoesOnTest 183 = .ok (.iconst 1, 1) := by decide +kernel
theorem d_Model_qGoesOnTest_184 : decode og_c_Model_qGoesOnTest 184 = .ok (.ireturn, 1) := by decide +kernel
theorem d_Model_qGoesOnTest_185 : decode og_c_Model_qGoesOnTest 185 = .ok (.aload_n 0, 1) := by decide +kernel
theorem d_Model_qGoesOnTest_186 : decode og_c_Model_qGoesOnTest 186 = .ok (.getfield 242, 3) := by decide +kernel
theorem d_Model_qGoesOnTest_189 : decode og_c_Model_qGoesOnTest 189 = .ok (.ifCond .ne 19, 3) := by decide +kernel
theorem d_Model_qGoesOnTest_192 : decode og_c_Model_qGoesOnTest 192 = .ok (.aload_n 0, 1) := by decide +kernel
theorem d_Model_qGoesOnTest_193 : decode og_c_Model_qGoesOnTest 193 = .ok (.invokevirtual 639, 3) := by decide +kernel
theorem d_Model_qGoesOnTest_196 : decode og_c_Model_qGoesOnTest 196 = .ok (.ifCond .eq 12, 3) := by decide +kernel
theorem d_Model_qGoesOnTest_199 : decode og_c_Model_qGoesOnTest 199 = .ok (.aload_n 0, 1) := by decide +kernel
theorem d_Model_qGoesOnTest_200 : decode og_c_Model_qGoesOnTest 200 = .ok (.iconst 1, 1) := by decide +kernel
theorem d_Model_qGoesOnTest_201 : decode og_c_Model_qGoesOnTest 201 = .ok (.aload_n 0, 1) := by decide +kernel
theorem d_Model_qGoesOnTest_202 : decode og_c_Model_qGoesOnTest 202 = .ok (.getfield 248, 3) := by decide +kernel
theorem d_Model_qGoesOnTest_205 : decode og_c_Model_qGoesOnTest 205 = .ok (.invokevirtual 272, 3) := by decide +kernel
theorem d_Model_qGoesOnTest_208 : decode og_c_Model_qGoesOnTest 208 = .ok (.iconst 0, 1) := by decide +kernel
theorem d_Model_qGoesOnTest_209 : decode og_c_Model_qGoesOnTest 209 = .ok (.ireturn, 1) := by decide +kernel
def m_Model_qGoesOnTest : og_Dn := og_den [17] 1 3 (og_cut (og_while (og_and (og_and (og_cc og_req (og_get 5 (og_loc 0)) (og_k 0)) (og_cc og_req (og_call m_Model_look [og_loc 0]) (og_k 93))) (og_cb (og_call m_Model_qHasSquare [og_loc 0]))) (og_seq (og_pop32 og_padd 2 (og_loc 0) (og_k 1)) (og_cut (og_while (og_not (og_cb (og_call m_Model_qIsOn [og_loc 0, og_k 25]))) (og_exp (og_call m_Model_qDrops [og_loc 0])) (og_skip)) (og_seq (og_pop32 og_psub 93 (og_loc 0) (og_k 1)) (og_seq (og_pop32 og_psub 94 (og_loc 0) (og_k 1)) (og_exp (og_call m_Model_qDropsNots [og_loc 0])))))) (og_skip)) (og_seq (og_if (og_cb (og_call m_Model_takes [og_loc 0, og_fix (fun _ => 1055) (og_loc 0)])) (og_cut (og_while (og_cb (og_call m_Model_qIsOn [og_loc 0, og_k 10])) (og_exp (og_call m_Model_qDrops [og_loc 0])) (og_skip)) (og_seq (og_ast 1700 (og_fix (fun _ => 1071) (og_loc 0)) (og_get 93 (og_loc 0)) (og_k 10)) (og_seq (og_pop32 og_padd 93 (og_loc 0) (og_k 1)) (og_retz (og_k 1))))) (og_skip)) (og_seq (og_if (og_cb (og_call m_Model_takes [og_loc 0, og_fix (fun _ => 1056) (og_loc 0)])) (og_cut (og_while (og_or (og_cb (og_call m_Model_qIsOn [og_loc 0, og_k 10])) (og_cb (og_call m_Model_qIsOn [og_loc 0, og_k 11]))) (og_exp (og_call m_Model_qDrops [og_loc 0])) (og_skip)) (og_seq (og_ast 1700 (og_fix (fun _ => 1071) (og_loc 0)) (og_get 93 (og_loc 0)) (og_k 11)) (og_seq (og_pop32 og_padd 93 (og_loc 0) (og_k 1)) (og_retz (og_k 1))))) (og_skip)) (og_cut (og_if (og_and (og_cc og_req (og_get 5 (og_loc 0)) (og_k 0)) (og_cb (og_call m_Model_qHasSquare [og_loc 0]))) (og_exp (og_call m_Model_fail [og_loc 0, og_k 1, og_get 2 (og_loc 0)])) (og_skip)) (og_retz (og_k 0))))))
set_option maxRecDepth 20000 in
theorem ok_Model_qGoesOnTest : og_MOK og_y_Model_qGoesOnTest og_c_Model_qGoesOnTest 1 3 4 [17] m_Model_qGoesOnTest := og_method (b := 0) (lt' := []) (by decide +kernel) (by decide) (by decide) (og_scut (og_swhile (T := 23) (F := 76) (cp0 := 0) (og_cand (og_cand (og_ccn og_n_eq (og_zne (tgt := 76) (og_f_Model_bad (og_aload_n (i := 0) (t := 15) (j := 0) (by rfl) (by rfl) d_Model_qGoesOnTest_0) og_w1148 d_Model_qGoesOnTest_1) d_Model_qGoesOnTest_4 (by decide))) (og_ccn og_n_eq (og_ine (tgt := 76) (og_callVi (og_acons (og_aload_n (i := 0) (t := 15) (j := 0) (by rfl) (by rfl) d_Model_qGoesOnTest_7) (og_anil)) (by decide) ok_Model_look (v_Model_look (by decide)) og_w1464 d_Model_qGoesOnTest_8) (og_bipush (by decide) d_Model_qGoesOnTest_11) d_Model_qGoesOnTest_13 (by decide)))) (og_cbeq (tgt := 76) (og_callVz (og_acons (og_aload_n (i := 0) (t := 15) (j := 0) (by rfl) (by rfl) d_Model_qGoesOnTest_16) (og_anil)) (by decide) ok_Model_qHasSquare (v_Model_qHasSquare (by decide)) og_w1617 d_Model_qGoesOnTest_17) d_Model_qGoesOnTest_20 (by decide))) (og_sseq (og_qadd_Model_at (og_aload_n (i := 0) (t := 15) (j := 0) (by rfl) (by rfl) d_Model_qGoesOnTest_23) d_Model_qGoesOnTest_24 d_Model_qGoesOnTest_25 (og_iconst (by decide) d_Model_qGoesOnTest_28) d_Model_qGoesOnTest_29 og_w1145 d_Model_qGoesOnTest_30) (og_scut (og_swhile (T := 42) (F := 49) (cp0 := 33) (og_cnot (og_cbne (tgt := 49) (og_callVz (og_acons (og_aload_n (i := 0) (t := 15) (j := 0) (by rfl) (by rfl) d_Model_qGoesOnTest_33) (og_acons (og_bipush (by decide) d_Model_qGoesOnTest_34) (og_anil))) (by decide) ok_Model_qIsOn (v_Model_qIsOn (by decide)) og_w1605 d_Model_qGoesOnTest_36) d_Model_qGoesOnTest_39 (by decide))) (og_gS (b' := 33) (og_callVv (og_acons (og_aload_n (i := 0) (t := 15) (j := 0) (by rfl) (by rfl) d_Model_qGoesOnTest_42) (og_anil)) ok_Model_qDrops (v_Model_qDrops (by decide)) og_w1586 d_Model_qGoesOnTest_43) d_Model_qGoesOnTest_46 (by decide)) (og_sskip)) (og_sseq (og_qsub_Model_qWaits (og_aload_n (i := 0) (t := 15) (j := 0) (by rfl) (by rfl) d_Model_qGoesOnTest_49) d_Model_qGoesOnTest_50 d_Model_qGoesOnTest_51 (og_iconst (by decide) d_Model_qGoesOnTest_54) d_Model_qGoesOnTest_55 og_w1236 d_Model_qGoesOnTest_56) (og_sseq (og_qsub_Model_qOpened (og_aload_n (i := 0) (t := 15) (j := 0) (by rfl) (by rfl) d_Model_qGoesOnTest_59) d_Model_qGoesOnTest_60 d_Model_qGoesOnTest_61 (og_iconst (by decide) d_Model_qGoesOnTest_64) d_Model_qGoesOnTest_65 og_w1237 d_Model_qGoesOnTest_66) (og_gS (b' := 0) (og_callVv (og_acons (og_aload_n (i := 0) (t := 15) (j := 0) (by rfl) (by rfl) d_Model_qGoesOnTest_69) (og_anil)) ok_Model_qDropsNots (v_Model_qDropsNots (by decide)) og_w1609 d_Model_qGoesOnTest_70) d_Model_qGoesOnTest_73 (by decide)))))) (og_sskip)) (og_sseq (og_sif (T := 87) (F := 126) (og_cbeq (tgt := 126) (og_callVz (og_acons (og_aload_n (i := 0) (t := 15) (j := 0) (by rfl) (by rfl) d_Model_qGoesOnTest_76) (og_acons (og_genc (og_f_Model_andAsked (og_aload_n (i := 0) (t := 15) (j := 0) (by rfl) (by rfl) d_Model_qGoesOnTest_77) og_w1218 d_Model_qGoesOnTest_78) (by rfl)) (og_anil))) (by decide) ok_Model_takes (v_Model_takes (by decide)) og_w1472 d_Model_qGoesOnTest_81) d_Model_qGoesOnTest_84 (by decide)) (og_scut (og_swhile (T := 96) (F := 103) (cp0 := 87) (og_cbeq (tgt := 103) (og_callVz (og_acons (og_aload_n (i := 0) (t := 15) (j := 0) (by rfl) (by rfl) d_Model_qGoesOnTest_87) (og_acons (og_bipush (by decide) d_Model_qGoesOnTest_88) (og_anil))) (by decide) ok_Model_qIsOn (v_Model_qIsOn (by decide)) og_w1605 d_Model_qGoesOnTest_90) d_Model_qGoesOnTest_93 (by decide)) (og_gS (b' := 87) (og_callVv (og_acons (og_aload_n (i := 0) (t := 15) (j := 0) (by rfl) (by rfl) d_Model_qGoesOnTest_96) (og_anil)) ok_Model_qDrops (v_Model_qDrops (by decide)) og_w1586 d_Model_qGoesOnTest_97) d_Model_qGoesOnTest_100 (by decide)) (og_sskip)) (og_sseq (og_iastore (N := 1700) (og_f_Model_qWait (og_aload_n (i := 0) (t := 15) (j := 0) (by rfl) (by rfl) d_Model_qGoesOnTest_103) og_w1235 d_Model_qGoesOnTest_104) (by rfl) (og_f_Model_qWaits (og_aload_n (i := 0) (t := 15) (j := 0) (by rfl) (by rfl) d_Model_qGoesOnTest_107) og_w1236 d_Model_qGoesOnTest_108) (og_bipush (by decide) d_Model_qGoesOnTest_111) d_Model_qGoesOnTest_113) (og_sseq (og_qadd_Model_qWaits (og_aload_n (i := 0) (t := 15) (j := 0) (by rfl) (by rfl) d_Model_qGoesOnTest_114) d_Model_qGoesOnTest_115 d_Model_qGoesOnTest_116 (og_iconst (by decide) d_Model_qGoesOnTest_119) d_Model_qGoesOnTest_120 og_w1236 d_Model_qGoesOnTest_121) (og_sretz (og_iconst (by decide) d_Model_qGoesOnTest_124) d_Model_qGoesOnTest_125)))) (og_sskip)) (og_sseq (og_sif (T := 137) (F := 185) (og_cbeq (tgt := 185) (og_callVz (og_acons (og_aload_n (i := 0) (t := 15) (j := 0) (by rfl) (by rfl) d_Model_qGoesOnTest_126) (og_acons (og_genc (og_f_Model_orAsked (og_aload_n (i := 0) (t := 15) (j := 0) (by rfl) (by rfl) d_Model_qGoesOnTest_127) og_w1219 d_Model_qGoesOnTest_128) (by rfl)) (og_anil))) (by decide) ok_Model_takes (v_Model_takes (by decide)) og_w1472 d_Model_qGoesOnTest_131) d_Model_qGoesOnTest_134 (by decide)) (og_scut (og_swhile (T := 155) (F := 162) (cp0 := 137) (og_cor (og_cbne (tgt := 155) (og_callVz (og_acons (og_aload_n (i := 0) (t := 15) (j := 0) (by rfl) (by rfl) d_Model_qGoesOnTest_137) (og_acons (og_bipush (by decide) d_Model_qGoesOnTest_138) (og_anil))) (by decide) ok_Model_qIsOn (v_Model_qIsOn (by decide)) og_w1605 d_Model_qGoesOnTest_140) d_Model_qGoesOnTest_143 (by decide)) (og_cbeq (tgt := 162) (og_callVz (og_acons (og_aload_n (i := 0) (t := 15) (j := 0) (by rfl) (by rfl) d_Model_qGoesOnTest_146) (og_acons (og_bipush (by decide) d_Model_qGoesOnTest_147) (og_anil))) (by decide) ok_Model_qIsOn (v_Model_qIsOn (by decide)) og_w1605 d_Model_qGoesOnTest_149) d_Model_qGoesOnTest_152 (by decide))) (og_gS (b' := 137) (og_callVv (og_acons (og_aload_n (i := 0) (t := 15) (j := 0) (by rfl) (by rfl) d_Model_qGoesOnTest_155) (og_anil)) ok_Model_qDrops (v_Model_qDrops (by decide)) og_w1586 d_Model_qGoesOnTest_156) d_Model_qGoesOnTest_159 (by decide)) (og_sskip)) (og_sseq (og_iastore (N := 1700) (og_f_Model_qWait (og_aload_n (i := 0) (t := 15) (j := 0) (by rfl) (by rfl) d_Model_qGoesOnTest_162) og_w1235 d_Model_qGoesOnTest_163) (by rfl) (og_f_Model_qWaits (og_aload_n (i := 0) (t := 15) (j := 0) (by rfl) (by rfl) d_Model_qGoesOnTest_166) og_w1236 d_Model_qGoesOnTest_167) (og_bipush (by decide) d_Model_qGoesOnTest_170) d_Model_qGoesOnTest_172) (og_sseq (og_qadd_Model_qWaits (og_aload_n (i := 0) (t := 15) (j := 0) (by rfl) (by rfl) d_Model_qGoesOnTest_173) d_Model_qGoesOnTest_174 d_Model_qGoesOnTest_175 (og_iconst (by decide) d_Model_qGoesOnTest_178) d_Model_qGoesOnTest_179 og_w1236 d_Model_qGoesOnTest_180) (og_sretz (og_iconst (by decide) d_Model_qGoesOnTest_183) d_Model_qGoesOnTest_184)))) (og_sskip)) (og_scut (og_sif (T := 199) (F := 208) (og_cand (og_ccn og_n_eq (og_zne (tgt := 208) (og_f_Model_bad (og_aload_n (i := 0) (t := 15) (j := 0) (by rfl) (by rfl) d_Model_qGoesOnTest_185) og_w1148 d_Model_qGoesOnTest_186) d_Model_qGoesOnTest_189 (by decide))) (og_cbeq (tgt := 208) (og_callVz (og_acons (og_aload_n (i := 0) (t := 15) (j := 0) (by rfl) (by rfl) d_Model_qGoesOnTest_192) (og_anil)) (by decide) ok_Model_qHasSquare (v_Model_qHasSquare (by decide)) og_w1617 d_Model_qGoesOnTest_193) d_Model_qGoesOnTest_196 (by decide))) (og_callVv (og_acons (og_aload_n (i := 0) (t := 15) (j := 0) (by rfl) (by rfl) d_Model_qGoesOnTest_199) (og_acons (og_iconst (by decide) d_Model_qGoesOnTest_200) (og_acons (og_f_Model_at (og_aload_n (i := 0) (t := 15) (j := 0) (by rfl) (by rfl) d_Model_qGoesOnTest_201) og_w1145 d_Model_qGoesOnTest_202) (og_anil)))) ok_Model_fail (v_Model_fail (by decide)) og_w1491 d_Model_qGoesOnTest_205) (og_sskip)) (og_sretz (og_iconst (by decide) d_Model_qGoesOnTest_208) d_Model_qGoesOnTest_209))))) (fun h => by cases h)
abbrev og_c_Model_qTest : ByteArray := prog_14_method_119_code
abbrev og_y_Model_qTest : MethodName := ⟨"OpenGravesModel", "qTest", "()V"⟩
theorem v_Model_qTest {own : String} {idx dep : Nat} (h : 9 + 1 ≤ dep) : og_sV own idx og_y_Model_qTest og_c_Model_qTest 3 2 9 dep 13 0 := ⟨⟨12, og_sl_Model, og_T_Model, 102, rfl, by decide, rfl⟩, og_w1536, (og_memP (⟨"OpenGravesModel", "qTest", "()V"⟩, 102) (List.mem_of_getElem? (i := 65) (by decide +kernel))), og_w17, og_w1537, ⟨by decide +kernel, by decide +kernel, by decide +kernel⟩, h, by decide⟩
theorem d_Model_qTest_0 : decode og_c_Model_qTest 0 = .ok (.iconst 1, 1) := by decide +kernel
theorem d_Model_qTest_1 : decode og_c_Model_qTest 1 = .ok (.istore_n 1, 1) := by decide +kernel
theorem d_Model_qTest_2 : decode og_c_Model_qTest 2 = .ok (.iload_n 1, 1) := by decide +kernel
theorem d_Model_qTest_3 : decode og_c_Model_qTest 3 = .ok (.ifCond .eq 107, 3) := by decide +kernel
theorem d_Model_qTest_6 : decode og_c_Model_qTest 6 = .ok (.aload_n 0, 1) := by decide +kernel
theorem d_Model_qTest_7 : decode og_c_Model_qTest 7 = .ok (.getfield 242, 3) := by decide +kernel
theorem d_Model_qTest_10 : decode og_c_Model_qTest 10 = .ok (.ifCond .ne 100, 3) := by decide +kernel
theorem d_Model_qTest_13 : decode og_c_Model_qTest 13 = .ok (.aload_n 0, 1) := by decide +kernel
theorem d_Model_qTest_14 : decode og_c_Model_qTest 14 = .ok (.invokevirtual 254, 3) := by decide +kernel
theorem d_Model_qTest_17 : decode og_c_Model_qTest 17 = .ok (.istore_n 2, 1) := by decide +kernel
theorem d_Model_qTest_18 : decode og_c_Model_qTest 18 = .ok (.iload_n 2, 1) := by decide +kernel
theorem d_Model_qTest_19 : decode og_c_Model_qTest 19 = .ok (.bipush 91, 2) := by decide +kernel
theorem d_Model_qTest_21 : decode og_c_Model_qTest 21 = .ok (.if_icmp .ne 26, 3) := by decide +kernel
theorem d_Model_qTest_24 : decode og_c_Model_qTest 24 = .ok (.aload_n 0, 1) := by decide +kernel
theorem d_Model_qTest_25 : decode og_c_Model_qTest 25 = .ok (.bipush 25, 2) := by decide +kernel
theorem d_Model_qTest_27 : decode og_c_Model_qTest 27 = .ok (.aload_n 0, 1) := by decide +kernel
theorem d_Model_qTest_28 : decode og_c_Model_qTest 28 = .ok (.getfield 248, 3) := by decide +kernel
theorem d_Model_qTest_31 : decode og_c_Model_qTest 31 = .ok (.invokevirtual 606, 3) := by decide +kernel
theorem d_Model_qTest_34 : decode og_c_Model_qTest 34 = .ok (.aload_n 0, 1) := by decide +kernel
theorem d_Model_qTest_35 : decode og_c_Model_qTest 35 = .ok (.dup, 1) := by decide +kernel
theorem d_Model_qTest_36 : decode og_c_Model_qTest 36 = .ok (.getfield 248, 3) := by decide +kernel
theorem d_Model_qTest_39 : decode og_c_Model_qTest 39 = .ok (.iconst 1, 1) := by decide +kernel
theorem d_Model_qTest_40 : decode og_c_Model_qTest 40 = .ok (.iadd, 1) := by decide +kernel
theorem d_Model_qTest_41 : decode og_c_Model_qTest 41 = .ok (.putfield 248, 3) := by decide +kernel
theorem d_Model_qTest_44 : decode og_c_Model_qTest 44 = .ok (.goto (-42), 3) := by decide +kernel
theorem d_Model_qTest_47 : decode og_c_Model_qTest 47 = .ok (.aload_n 0, 1) := by decide +kernel
theorem d_Model_qTest_48 : decode og_c_Model_qTest 48 = .ok (.aload_n 0, 1) := by decide +kernel
theorem d_Model_qTest_49 : decode og_c_Model_qTest 49 = .ok (.getfield 179, 3) := by decide +kernel
theorem d_Model_qTest_52 : decode og_c_Model_qTest 52 = .ok (.invokevirtual 265, 3) := by decide +kernel
theorem d_Model_qTest_55 : decode og_c_Model_qTest 55 = .ok (.ifCond .eq 24, 3) := by decide +kernel
theorem d_Model_qTest_58 : decode og_c_Model_qTest 58 = .ok (.aload_n 0, 1) := by decide +kernel
theorem d_Model_qTest_59 : decode og_c_Model_qTest 59 = .ok (.bipush 12, 2) := by decide +kernel
theorem d_Model_qTest_61 : decode og_c_Model_qTest 61 = .ok (.aload_n 0, 1) := by decide +kernel
theorem d_Model_qTest_62 : decode og_c_Model_qTest 62 = .ok (.getfield 248, 3) := by decide +kernel
theorem d_Model_qTest_65 : decode og_c_Model_qTest 65 = .ok (.invokevirtual 606, 3) := by decide +kernel
theorem d_Model_qTest_68 : decode og_c_Model_qTest 68 = .ok (.aload_n 0, 1) := by decide +kernel
theorem d_Model_qTest_69 : decode og_c_Model_qTest 69 = .ok (.aload_n 0, 1) := by decide +kernel
theorem d_Model_qTest_70 : decode og_c_Model_qTest 70 = .ok (.getfield 179, 3) := by decide +kernel
theorem d_Model_qTest_73 : decode og_c_Model_qTest 73 = .ok (.invokevirtual 314, 3) := by decide +kernel
theorem d_Model_qTest_76 : decode og_c_Model_qTest 76 = .ok (.goto (-74), 3) := by decide +kernel
theorem d_Model_qTest_79 : decode og_c_Model_qTest 79 = .ok (.aload_n 0, 1) := by decide +kernel
theorem d_Model_qTest_80 : decode og_c_Model_qTest 80 = .ok (.invokevirtual 630, 3) := by decide +kernel
theorem d_Model_qTest_83 : decode og_c_Model_qTest 83 = .ok (.aload_n 0, 1) := by decide +kernel
theorem d_Model_qTest_84 : decode og_c_Model_qTest 84 = .ok (.invokevirtual 633, 3) := by decide +kernel
theorem d_Model_qTest_87 : decode og_c_Model_qTest 87 = .ok (.aload_n 0, 1) := by decide +kernel
theorem d_Model_qTest_88 : decode og_c_Model_qTest 88 = .ok (.getfield 242, 3) := by decide +kernel
theorem d_Model_qTest_91 : decode og_c_Model_qTest 91 = .ok (.ifCond .ne 14, 3) := by decide +kernel
theorem d_Model_qTest_94 : decode og_c_Model_qTest 94 = .ok (.aload_n 0, 1) := by decide +kernel
theorem d_Model_qTest_95 : decode og_c_Model_qTest 95 = .ok (.invokevirtual 636, 3) := by decide +kernel
theorem d_Model_qTest_98 : decode og_c_Model_qTest 98 = .ok (.ifCond .eq 7, 3) := by decide +kernel
theorem d_Model_qTest_101 : decode og_c_Model_qTest 101 = .ok (.iconst 1, 1) := by decide +kernel
theorem d_Model_qTest_102 : decode og_c_Model_qTest 102 = .ok (.goto 4, 3) := by decide +kernel
theorem d_Model_qTest_105 : decode og_c_Model_qTest 105 = .ok (.iconst 0, 1) := by decide +kernel
theorem d_Model_qTest_106 : decode og_c_Model_qTest 106 = .ok (.istore_n 1, 1) := by decide +kernel
theorem d_Model_qTest_107 : decode og_c_Model_qTest 107 = .ok (.goto (-105), 3) := by decide +kernel
theorem d_Model_qTest_110 : decode og_c_Model_qTest 110 = .ok (.aload_n 0, 1) := by decide +kernel
theorem d_Model_qTest_111 : decode og_c_Model_qTest 111 = .ok (.getfield 242, 3) := by decide +kernel
theorem d_Model_qTest_114 : decode og_c_Model_qTest 114 = .ok (.ifCond .ne 17, 3) := by decide +kernel
theorem d_Model_qTest_117 : decode og_c_Model_qTest 117 = .ok (.aload_n 0, 1) := by decide +kernel
theorem d_Model_qTest_118 : decode og_c_Model_qTest 118 = .ok (.getfield 329, 3) := by decide +kernel
theorem d_Model_qTest_121 : decode og_c_Model_qTest 121 = .ok (.ifCond .le 10, 3) := by decide +kernel
theorem d_Model_qTest_124 : decode og_c_Model_qTest 124 = .ok (.aload_n 0, 1) := by decide +kernel
theorem d_Model_qTest_125 : decode og_c_Model_qTest 125 = .ok (.invokevirtual 594, 3) := by decide +kernel
theorem d_Model_qTest_128 : decode og_c_Model_qTest 128 = .ok (.goto (-18), 3) := by decide +kernel
theorem d_Model_qTest_131 : decode og_c_Model_qTest 131 = .ok (.return_, 1) := by decide +kernel
def m_Model_qTest : og_Dn := og_den [17] 3 2 (og_seq (og_set 1 (og_k 1)) (og_cut (og_while (og_and (og_cb (og_loc 1)) (og_cc og_req (og_get 5 (og_loc 0)) (og_k 0))) (og_seq (og_set 2 (og_call m_Model_look [og_loc 0])) (og_seq (og_if (og_cc og_req (og_loc 2) (og_k 91)) (og_seq (og_exp (og_call m_Model_qOpens [og_loc 0, og_k 25, og_get 2 (og_loc 0)])) (og_seq (og_pop32 og_padd 2 (og_loc 0) (og_k 1)) (og_cont))) (og_skip)) (og_seq (og_if (og_cb (og_call m_Model_isHere [og_loc 0, og_fix (fun _ => 1054) (og_loc 0)])) (og_seq (og_exp (og_call m_Model_qOpens [og_loc 0, og_k 12, og_get 2 (og_loc 0)])) (og_seq (og_exp (og_call m_Model_asks [og_loc 0, og_fix (fun _ => 1054) (og_loc 0)])) (og_cont))) (og_skip)) (og_seq (og_exp (og_call m_Model_qFact [og_loc 0])) (og_seq (og_exp (og_call m_Model_qDropsNots [og_loc 0])) (og_set 1 (og_ec (og_and (og_cc og_req (og_get 5 (og_loc 0)) (og_k 0)) (og_cb (og_call m_Model_qGoesOnTest [og_loc 0])))))))))) (og_skip)) (og_while (og_and (og_cc og_req (og_get 5 (og_loc 0)) (og_k 0)) (og_cc og_rgt (og_get 93 (og_loc 0)) (og_k 0))) (og_exp (og_call m_Model_qDrops [og_loc 0])) (og_skip))))
set_option maxRecDepth 20000 in
theorem ok_Model_qTest : og_MOK og_y_Model_qTest og_c_Model_qTest 3 2 9 [17] m_Model_qTest := og_method (b := 131) (lt' := [(0, 17)]) (by decide +kernel) (by decide) (by decide) (og_sdrop (lt' := [(0, 17), (1, 0)]) (lt2 := [(0, 17)]) (og_sseq (og_istore_n (i := 1) (lt' := [(0, 17), (1, 0)]) (og_iconst (by decide) d_Model_qTest_0) (by rfl) (by decide) (by decide) d_Model_qTest_1) (og_scut (og_swhile (T := 13) (F := 110) (cp0 := 2) (og_cand (og_cbeq (tgt := 110) (og_iload_n (i := 1) (j := 1) (by rfl) (by rfl) d_Model_qTest_2) d_Model_qTest_3 (by decide)) (og_ccn og_n_eq (og_zne (tgt := 110) (og_f_Model_bad (og_aload_n (i := 0) (t := 15) (j := 0) (by rfl) (by rfl) d_Model_qTest_6) og_w1148 d_Model_qTest_7) d_Model_qTest_10 (by decide)))) (og_sdrop (lt' := [(0, 17), (1, 0), (2, 0)]) (lt2 := [(0, 17), (1, 0)]) (og_sseq (og_istore_n (i := 2) (lt' := [(0, 17), (1, 0), (2, 0)]) (og_callVi (og_acons (og_aload_n (i := 0) (t := 15) (j := 0) (by rfl) (by rfl) d_Model_qTest_13) (og_anil)) (by decide) ok_Model_look (v_Model_look (by decide)) og_w1464 d_Model_qTest_14) (by rfl) (by decide) (by decide) d_Model_qTest_17) (og_sseq (og_sif (T := 24) (F := 47) (og_ccn og_n_eq (og_ine (tgt := 47) (og_iload_n (i := 2) (j := 2) (by rfl) (by rfl) d_Model_qTest_18) (og_bipush (by decide) d_Model_qTest_19) d_Model_qTest_21 (by decide))) (og_sseq (og_callVv (og_acons (og_aload_n (i := 0) (t := 15) (j := 0) (by rfl) (by rfl) d_Model_qTest_24) (og_acons (og_bipush (by decide) d_Model_qTest_25) (og_acons (og_f_Model_at (og_aload_n (i := 0) (t := 15) (j := 0) (by rfl) (by rfl) d_Model_qTest_27) og_w1145 d_Model_qTest_28) (og_anil)))) ok_Model_qOpens (v_Model_qOpens (by decide)) og_w1538 d_Model_qTest_31) (og_sseq (og_gS (b' := 2) (og_qadd_Model_at (og_aload_n (i := 0) (t := 15) (j := 0) (by rfl) (by rfl) d_Model_qTest_34) d_Model_qTest_35 d_Model_qTest_36 (og_iconst (by decide) d_Model_qTest_39) d_Model_qTest_40 og_w1145 d_Model_qTest_41) d_Model_qTest_44 (by decide)) (og_scont (by decide)))) (og_sskip)) (og_sseq (og_sif (T := 58) (F := 79) (og_cbeq (tgt := 79) (og_callVz (og_acons (og_aload_n (i := 0) (t := 15) (j := 0) (by rfl) (by rfl) d_Model_qTest_47) (og_acons (og_genc (og_f_Model_notAsked (og_aload_n (i := 0) (t := 15) (j := 0) (by rfl) (by rfl) d_Model_qTest_48) og_w1217 d_Model_qTest_49) (by rfl)) (og_anil))) (by decide) ok_Model_isHere (v_Model_isHere (by decide)) og_w1476 d_Model_qTest_52) d_Model_qTest_55 (by decide)) (og_sseq (og_callVv (og_acons (og_aload_n (i := 0) (t := 15) (j := 0) (by rfl) (by rfl) d_Model_qTest_58) (og_acons (og_bipush (by decide) d_Model_qTest_59) (og_acons (og_f_Model_at (og_aload_n (i := 0) (t := 15) (j := 0) (by rfl) (by rfl) d_Model_qTest_61) og_w1145 d_Model_qTest_62) (og_anil)))) ok_Model_qOpens (v_Model_qOpens (by decide)) og_w1538 d_Model_qTest_65) (og_sseq (og_gS (b' := 2) (og_callVv (og_acons (og_aload_n (i := 0) (t := 15) (j := 0) (by rfl) (by rfl) d_Model_qTest_68) (og_acons (og_genc (og_f_Model_notAsked (og_aload_n (i := 0) (t := 15) (j := 0) (by rfl) (by rfl) d_Model_qTest_69) og_w1217 d_Model_qTest_70) (by rfl)) (og_anil))) ok_Model_asks (v_Model_asks (by decide)) og_w1509 d_Model_qTest_73) d_Model_qTest_76 (by decide)) (og_scont (by decide)))) (og_sskip)) (og_sseq (og_callVv (og_acons (og_aload_n (i := 0) (t := 15) (j := 0) (by rfl) (by rfl) d_Model_qTest_79) (og_anil)) ok_Model_qFact (v_Model_qFact (by decide)) og_w1542 d_Model_qTest_80) (og_sseq (og_callVv (og_acons (og_aload_n (i := 0) (t := 15) (j := 0) (by rfl) (by rfl) d_Model_qTest_83) (og_anil)) ok_Model_qDropsNots (v_Model_qDropsNots (by decide)) og_w1609 d_Model_qTest_84) (og_gS (b' := 2) (og_istore_n (i := 1) (lt' := [(0, 17), (1, 0), (2, 0)]) (og_econd (b := 0) (og_cand (og_ccn og_n_eq (og_zne (tgt := 105) (og_f_Model_bad (og_aload_n (i := 0) (t := 15) (j := 0) (by rfl) (by rfl) d_Model_qTest_87) og_w1148 d_Model_qTest_88) d_Model_qTest_91 (by decide))) (og_cbeq (tgt := 105) (og_callVz (og_acons (og_aload_n (i := 0) (t := 15) (j := 0) (by rfl) (by rfl) d_Model_qTest_94) (og_anil)) (by decide) ok_Model_qGoesOnTest (v_Model_qGoesOnTest (by decide)) og_w1613 d_Model_qTest_95) d_Model_qTest_98 (by decide))) d_Model_qTest_101 d_Model_qTest_102 (by decide) d_Model_qTest_105 (by rfl)) (by rfl) (by decide) (by decide) d_Model_qTest_106) d_Model_qTest_107 (by decide))))))) (by decide)) (og_sskip)) (og_swhile (T := 124) (F := 131) (cp0 := 110) (og_cand (og_ccn og_n_eq (og_zne (tgt := 131) (og_f_Model_bad (og_aload_n (i := 0) (t := 15) (j := 0) (by rfl) (by rfl) d_Model_qTest_110) og_w1148 d_Model_qTest_111) d_Model_qTest_114 (by decide))) (og_ccn og_n_gt (og_zle (tgt := 131) (og_f_Model_qWaits (og_aload_n (i := 0) (t := 15) (j := 0) (by rfl) (by rfl) d_Model_qTest_117) og_w1236 d_Model_qTest_118) d_Model_qTest_121 (by decide)))) (og_gS (b' := 110) (og_callVv (og_acons (og_aload_n (i := 0) (t := 15) (j := 0) (by rfl) (by rfl) d_Model_qTest_124) (og_anil)) ok_Model_qDrops (v_Model_qDrops (by decide)) og_w1586 d_Model_qTest_125) d_Model_qTest_128 (by decide)) (og_sskip)))) (by decide)) (fun _ => d_Model_qTest_131)
abbrev og_c_Model_codesTold : ByteArray := prog_14_method_24_code
abbrev og_y_Model_codesTold : MethodName := ⟨"OpenGravesModel", "codesTold", "(II)V"⟩
theorem v_Model_codesTold {own : String} {idx dep : Nat} (h : 10 + 1 ≤ dep) : og_sV own idx og_y_Model_codesTold og_c_Model_codesTold 4 2 10 dep 13 2 := ⟨⟨12, og_sl_Model, og_T_Model, 102, rfl, by decide, rfl⟩, og_w1529, (og_memP (⟨"OpenGravesModel", "codesTold", "(II)V"⟩, 102) (List.mem_of_getElem? (i := 64) (by decide +kernel))), og_w17, og_w1530, ⟨by decide +kernel, by decide +kernel, by decide +kernel⟩, h, by decide⟩
theorem d_Model_codesTold_0 : decode og_c_Model_codesTold 0 = .ok (.aload_n 0, 1) := by decide +kernel
theorem d_Model_codesTold_1 : decode og_c_Model_codesTold 1 = .ok (.getfield 242, 3) := by decide +kernel
theorem d_Model_codesTold_4 : decode og_c_Model_codesTold 4 = .ok (.ifCond .ne 19, 3) := by decide +kernel
theorem d_Model_codesTold_7 : decode og_c_Model_codesTold 7 = .ok (.aload_n 0, 1) := by decide +kernel
theorem d_Model_codesTold_8 : decode og_c_Model_codesTold 8 = .ok (.getfield 115, 3) := by decide +kernel
theorem d_Model_codesTold_11 : decode og_c_Model_codesTold 11 = .ok (.iload_n 1, 1) := by decide +kernel
theorem d_Model_codesTold_12 : decode og_c_Model_codesTold 12 = .ok (.iaload, 1) := by decide +kernel
theorem d_Model_codesTold_13 : decode og_c_Model_codesTold 13 = .ok (.iconst (-1), 1) := by decide +kernel
theorem d_Model_codesTold_14 : decode og_c_Model_codesTold 14 = .ok (.if_icmp .eq 9, 3) := by decide +kernel
theorem d_Model_codesTold_17 : decode og_c_Model_codesTold 17 = .ok (.aload_n 0, 1) := by decide +kernel
theorem d_Model_codesTold_18 : decode og_c_Model_codesTold 18 = .ok (.iconst 5, 1) := by decide +kernel
theorem d_Model_codesTold_19 : decode og_c_Model_codesTold 19 = .ok (.iload_n 2, 1) := by decide +kernel
theorem d_Model_codesTold_20 : decode og_c_Model_codesTold 20 = .ok (.invokevirtual 272, 3) := by decide +kernel
theorem d_Model_codesTold_23 : decode og_c_Model_codesTold 23 = .ok (.aload_n 0, 1) := by decide +kernel
theorem d_Model_codesTold_24 : decode og_c_Model_codesTold 24 = .ok (.getfield 242, 3) := by decide +kernel
theorem d_Model_codesTold_27 : decode og_c_Model_codesTold 27 = .ok (.ifCond .eq 4, 3) := by decide +kernel
theorem d_Model_codesTold_30 : decode og_c_Model_codesTold 30 = .ok (.return_, 1) := by decide +kernel
theorem d_Model_codesTold_31 : decode og_c_Model_codesTold 31 = .ok (.aload_n 0, 1) := by decide +kernel
theorem d_Model_codesTold_32 : decode og_c_Model_codesTold 32 = .ok (.iload_n 1, 1) := by decide +kernel
theorem d_Model_codesTold_33 : decode og_c_Model_codesTold 33 = .ok (.invokestatic 322, 3) := by decide +kernel
theorem d_Model_codesTold_36 : decode og_c_Model_codesTold 36 = .ok (.putfield 300, 3) := by decide +kernel
theorem d_Model_codesTold_39 : decode og_c_Model_codesTold 39 = .ok (.aload_n 0, 1) := by decide +kernel
theorem d_Model_codesTold_40 : decode og_c_Model_codesTold 40 = .ok (.iconst 0, 1) := by decide +kernel
theorem d_Model_codesTold_41 : decode og_c_Model_codesTold 41 = .ok (.putfield 326, 3) := by decide +kernel
theorem d_Model_codesTold_44 : decode og_c_Model_codesTold 44 = .ok (.aload_n 0, 1) := by decide +kernel
theorem d_Model_codesTold_45 : decode og_c_Model_codesTold 45 = .ok (.iconst 0, 1) := by decide +kernel
theorem d_Model_codesTold_46 : decode og_c_Model_codesTold 46 = .ok (.putfield 329, 3) := by decide +kernel
theorem d_Model_codesTold_49 : decode og_c_Model_codesTold 49 = .ok (.aload_n 0, 1) := by decide +kernel
theorem d_Model_codesTold_50 : decode og_c_Model_codesTold 50 = .ok (.iconst 0, 1) := by decide +kernel
theorem d_Model_codesTold_51 : decode og_c_Model_codesTold 51 = .ok (.putfield 332, 3) := by decide +kernel
theorem d_Model_codesTold_54 : decode og_c_Model_codesTold 54 = .ok (.aload_n 0, 1) := by decide +kernel
theorem d_Model_codesTold_55 : decode og_c_Model_codesTold 55 = .ok (.iconst 0, 1) := by decide +kernel
theorem d_Model_codesTold_56 : decode og_c_Model_codesTold 56 = .ok (.putfield 335, 3) := by decide +kernel
theorem d_Model_codesTold_59 : decode og_c_Model_codesTold 59 = .ok (.iload_n 1, 1) := by decide +kernel
theorem d_Model_codesTold_60 : decode og_c_Model_codesTold 60 = .ok (.iconst 1, 1) := by decide +kernel
theorem d_Model_codesTold_61 : decode og_c_Model_codesTold 61 = .ok (.if_icmp .ne 10, 3) := by decide +kernel
theorem d_Model_codesTold_64 : decode og_c_Model_codesTold 64 = .ok (.aload_n 0, 1) := by decide +kernel
theorem d_Model_codesTold_65 : decode og_c_Model_codesTold 65 = .ok (.invokevirtual 338, 3) := by decide +kernel
theorem d_Model_codesTold_68 : decode og_c_Model_codesTold 68 = .ok (.goto 7, 3) := by decide +kernel
theorem d_Model_codesTold_71 : decode og_c_Model_codesTold 71 = .ok (.aload_n 0, 1) := by decide +kernel
theorem d_Model_codesTold_72 : decode og_c_Model_codesTold 72 = .ok (.invokevirtual 341, 3) := by decide +kernel
theorem d_Model_codesTold_75 : decode og_c_Model_codesTold 75 = .ok (.aload_n 0, 1) := by decide +kernel
theorem d_Model_codesTold_76 : decode og_c_Model_codesTold 76 = .ok (.getfield 242, 3) := by decide +kernel
theorem d_Model_codesTold_79 : decode og_c_Model_codesTold 79 = .ok (.ifCond .eq 4, 3) := by decide +kernel
theorem d_Model_codesTold_82 : decode og_c_Model_codesTold 82 = .ok (.return_, 1) := by decide +kernel
theorem d_Model_codesTold_83 : decode og_c_Model_codesTold 83 = .ok (.aload_n 0, 1) := by decide +kernel
theorem d_Model_codesTold_84 : decode og_c_Model_codesTold 84 = .ok (.getfield 115, 3) := by decide +kernel
theorem d_Model_codesTold_87 : decode og_c_Model_codesTold 87 = .ok (.iload_n 1, 1) := by decide +kernel
theorem d_Model_codesTold_88 : decode og_c_Model_codesTold 88 = .ok (.aload_n 0, 1) := by decide +kernel
theorem d_Model_codesTold_89 : decode og_c_Model_codesTold 89 = .ok (.getfield 344, 3) := by decide +kernel
theorem d_Model_codesTold_92 : decode og_c_Model_codesTold 92 = .ok (.iastore, 1) := by decide +kernel
theorem d_Model_codesTold_93 : decode og_c_Model_codesTold 93 = .ok (.iconst 0, 1) := by decide +kernel
theorem d_Model_codesTold_94 : decode og_c_Model_codesTold 94 = .ok (.istore_n 3, 1) := by decide +kernel
theorem d_Model_codesTold_95 : decode og_c_Model_codesTold 95 = .ok (.iload_n 3, 1) := by decide +kernel
theorem d_Model_codesTold_96 : decode og_c_Model_codesTold 96 = .ok (.aload_n 0, 1) := by decide +kernel
theorem d_Model_codesTold_97 : decode og_c_Model_codesTold 97 = .ok (.getfield 326, 3) := by decide +kernel
theorem d_Model_codesTold_100 : decode og_c_Model_codesTold 100 = .ok (.if_icmp .ge 34, 3) := by decide +kernel
theorem d_Model_codesTold_103 : decode og_c_Model_codesTold 103 = .ok (.aload_n 0, 1) := by decide +kernel
theorem d_Model_codesTold_104 : decode og_c_Model_codesTold 104 = .ok (.getfield 121, 3) := by decide +kernel
theorem d_Model_codesTold_107 : decode og_c_Model_codesTold 107 = .ok (.aload_n 0, 1) := by decide +kernel
theorem d_Model_codesTold_108 : decode og_c_Model_codesTold 108 = .ok (.getfield 344, 3) := by decide +kernel
theorem d_Model_codesTold_111 : decode og_c_Model_codesTold 111 = .ok (.aload_n 0, 1) := by decide +kernel
theorem d_Model_codesTold_112 : decode og_c_Model_codesTold 112 = .ok (.getfield 227, 3) := by decide +kernel
theorem d_Model_codesTold_115 : decode og_c_Model_codesTold 115 = .ok (.iload_n 3, 1) := by decide +kernel
theorem d_Model_codesTold_116 : decode og_c_Model_codesTold 116 = .ok (.iaload, 1) := by decide +kernel
theorem d_Model_codesTold_117 : decode og_c_Model_codesTold 117 = .ok (.iastore, 1) := by decide +kernel
theorem d_Model_codesTold_118 : decode og_c_Model_codesTold 118 = .ok (.aload_n 0, 1) := by decide +kernel
theorem d_Model_codesTold_119 : decode og_c_Model_codesTold 119 = .ok (.dup, 1) := by decide +kernel
theorem d_Model_codesTold_120 : decode og_c_Model_codesTold 120 = .ok (.getfield 344, 3) := by decide +kernel
theorem d_Model_codesTold_123 : decode og_c_Model_codesTold 123 = .ok (.iconst 1, 1) := by decide +kernel
theorem d_Model_codesTold_124 : decode og_c_Model_codesTold 124 = .ok (.iadd, 1) := by decide +kernel
theorem d_Model_codesTold_125 : decode og_c_Model_codesTold 125 = .ok (.putfield 344, 3) := by decide +kernel
theorem d_Model_codesTold_128 : decode og_c_Model_codesTold 128 = .ok (.iinc 3 1, 3) := by decide +kernel
theorem d_Model_codesTold_131 : decode og_c_Model_codesTold 131 = .ok (.goto (-36), 3) := by decide +kernel
theorem d_Model_codesTold_134 : decode og_c_Model_codesTold 134 = .ok (.aload_n 0, 1) := by decide +kernel
theorem d_Model_codesTold_135 : decode og_c_Model_codesTold 135 = .ok (.getfield 118, 3) := by decide +kernel
theorem d_Model_codesTold_138 : decode og_c_Model_codesTold 138 = .ok (.iload_n 1, 1) := by decide +kernel
theorem d_Model_codesTold_139 : decode og_c_Model_codesTold 139 = .ok (.aload_n 0, 1) := by decide +kernel
theorem d_Model_codesTold_140 : decode og_c_Model_codesTold 140 = .ok (.getfield 344, 3) := by decide +kernel
theorem d_Model_codesTold_143 : decode og_c_Model_codesTold 143 = .ok (.iastore, 1) := by decide +kernel
theorem d_Model_codesTold_144 : decode og_c_Model_codesTold 144 = .ok (.return_, 1) := by decide +kernel
def m_Model_codesTold : og_Dn := og_den [17, 0, 0] 4 2 (og_cut (og_if (og_and (og_cc og_req (og_get 5 (og_loc 0)) (og_k 0)) (og_cc og_rne (og_ald 10 (og_fix (fun _ => 1034) (og_loc 0)) (og_loc 1)) (og_k (-1)))) (og_exp (og_call m_Model_fail [og_loc 0, og_k 5, og_loc 2])) (og_skip)) (og_seq (og_if (og_cc og_rne (og_get 5 (og_loc 0)) (og_k 0)) (og_retv) (og_skip)) (og_seq (og_putf 48 (og_loc 0) (og_call m_Model_kindOf [og_loc 1])) (og_seq (og_putf 91 (og_loc 0) (og_k 0)) (og_seq (og_putf 93 (og_loc 0) (og_k 0)) (og_seq (og_putf 94 (og_loc 0) (og_k 0)) (og_seq (og_putf 95 (og_loc 0) (og_k 0)) (og_cut (og_if (og_cc og_req (og_loc 1) (og_k 1)) (og_exp (og_call m_Model_qTest [og_loc 0])) (og_exp (og_call m_Model_qSums [og_loc 0]))) (og_seq (og_if (og_cc og_rne (og_get 5 (og_loc 0)) (og_k 0)) (og_retv) (og_skip)) (og_seq (og_ast 10 (og_fix (fun _ => 1034) (og_loc 0)) (og_loc 1) (og_get 46 (og_loc 0))) (og_cut (og_seq (og_set 3 (og_k 0)) (og_while (og_cc og_rlt (og_loc 3) (og_get 91 (og_loc 0))) (og_seq (og_ast 3200 (og_fix (fun _ => 1036) (og_loc 0)) (og_get 46 (og_loc 0)) (og_ald 1700 (og_fix (fun _ => 1070) (og_loc 0)) (og_loc 3))) (og_pop32 og_padd 46 (og_loc 0) (og_k 1))) (og_inc 3 1))) (og_ast 10 (og_fix (fun _ => 1035) (og_loc 0)) (og_loc 1) (og_get 46 (og_loc 0))))))))))))))
set_option maxRecDepth 20000 in
theorem ok_Model_codesTold : og_MOK og_y_Model_codesTold og_c_Model_codesTold 4 2 10 [17, 0, 0] m_Model_codesTold := og_method (b := 144) (lt' := [(0, 17), (1, 0), (2, 0)]) (by decide +kernel) (by decide) (by decide) (og_scut (og_sif (T := 17) (F := 23) (og_cand (og_ccn og_n_eq (og_zne (tgt := 23) (og_f_Model_bad (og_aload_n (i := 0) (t := 15) (j := 0) (by rfl) (by rfl) d_Model_codesTold_0) og_w1148 d_Model_codesTold_1) d_Model_codesTold_4 (by decide))) (og_ccn og_n_ne (og_ieq (tgt := 23) (og_iald (N := 10) (og_f_Model_codeFrom (og_aload_n (i := 0) (t := 15) (j := 0) (by rfl) (by rfl) d_Model_codesTold_7) og_w1186 d_Model_codesTold_8) (by rfl) (og_iload_n (i := 1) (j := 1) (by rfl) (by rfl) d_Model_codesTold_11) d_Model_codesTold_12) (og_iconst (by decide) d_Model_codesTold_13) d_Model_codesTold_14 (by decide)))) (og_callVv (og_acons (og_aload_n (i := 0) (t := 15) (j := 0) (by rfl) (by rfl) d_Model_codesTold_17) (og_acons (og_iconst (by decide) d_Model_codesTold_18) (og_acons (og_iload_n (i := 2) (j := 2) (by rfl) (by rfl) d_Model_codesTold_19) (og_anil)))) ok_Model_fail (v_Model_fail (by decide)) og_w1491 d_Model_codesTold_20) (og_sskip)) (og_sseq (og_sif (T := 30) (F := 31) (og_ccn og_n_ne (og_zeq (tgt := 31) (og_f_Model_bad (og_aload_n (i := 0) (t := 15) (j := 0) (by rfl) (by rfl) d_Model_codesTold_23) og_w1148 d_Model_codesTold_24) d_Model_codesTold_27 (by decide))) (og_sretv d_Model_codesTold_30) (og_sskip)) (og_sseq (og_p_Model_textKind (og_aload_n (i := 0) (t := 15) (j := 0) (by rfl) (by rfl) d_Model_codesTold_31) (og_callSi (og_acons (og_iload_n (i := 1) (j := 1) (by rfl) (by rfl) d_Model_codesTold_32) (og_anil)) (by decide) ok_Model_kindOf (v_Model_kindOf (by decide)) og_w1531 d_Model_codesTold_33) og_w1191 d_Model_codesTold_36) (og_sseq (og_p_Model_qCoded (og_aload_n (i := 0) (t := 15) (j := 0) (by rfl) (by rfl) d_Model_codesTold_39) (og_iconst (by decide) d_Model_codesTold_40) og_w1234 d_Model_codesTold_41) (og_sseq (og_p_Model_qWaits (og_aload_n (i := 0) (t := 15) (j := 0) (by rfl) (by rfl) d_Model_codesTold_44) (og_iconst (by decide) d_Model_codesTold_45) og_w1236 d_Model_codesTold_46) (og_sseq (og_p_Model_qOpened (og_aload_n (i := 0) (t := 15) (j := 0) (by rfl) (by rfl) d_Model_codesTold_49) (og_iconst (by decide) d_Model_codesTold_50) og_w1237 d_Model_codesTold_51) (og_sseq (og_p_Model_qBase (og_aload_n (i := 0) (t := 15) (j := 0) (by rfl) (by rfl) d_Model_codesTold_54) (og_iconst (by decide) d_Model_codesTold_55) og_w1238 d_Model_codesTold_56) (og_scut (og_sif (T := 64) (F := 71) (og_ccn og_n_eq (og_ine (tgt := 71) (og_iload_n (i := 1) (j := 1) (by rfl) (by rfl) d_Model_codesTold_59) (og_iconst (by decide) d_Model_codesTold_60) d_Model_codesTold_61 (by decide))) (og_gS (b' := 75) (og_callVv (og_acons (og_aload_n (i := 0) (t := 15) (j := 0) (by rfl) (by rfl) d_Model_codesTold_64) (og_anil)) ok_Model_qTest (v_Model_qTest (by decide)) og_w1534 d_Model_codesTold_65) d_Model_codesTold_68 (by decide)) (og_callVv (og_acons (og_aload_n (i := 0) (t := 15) (j := 0) (by rfl) (by rfl) d_Model_codesTold_71) (og_anil)) ok_Model_qSums (v_Model_qSums (by decide)) og_w1550 d_Model_codesTold_72)) (og_sseq (og_sif (T := 82) (F := 83) (og_ccn og_n_ne (og_zeq (tgt := 83) (og_f_Model_bad (og_aload_n (i := 0) (t := 15) (j := 0) (by rfl) (by rfl) d_Model_codesTold_75) og_w1148 d_Model_codesTold_76) d_Model_codesTold_79 (by decide))) (og_sretv d_Model_codesTold_82) (og_sskip)) (og_sseq (og_iastore (N := 10) (og_f_Model_codeFrom (og_aload_n (i := 0) (t := 15) (j := 0) (by rfl) (by rfl) d_Model_codesTold_83) og_w1186 d_Model_codesTold_84) (by rfl) (og_iload_n (i := 1) (j := 1) (by rfl) (by rfl) d_Model_codesTold_87) (og_f_Model_coded (og_aload_n (i := 0) (t := 15) (j := 0) (by rfl) (by rfl) d_Model_codesTold_88) og_w1189 d_Model_codesTold_89) d_Model_codesTold_92) (og_scut (og_sdrop (lt' := [(0, 17), (1, 0), (2, 0), (3, 0)]) (lt2 := [(0, 17), (1, 0), (2, 0)]) (og_sseq (og_istore_n (i := 3) (lt' := [(0, 17), (1, 0), (2, 0), (3, 0)]) (og_iconst (by decide) d_Model_codesTold_93) (by rfl) (by decide) (by decide) d_Model_codesTold_94) (og_swhile (T := 103) (F := 134) (cp0 := 128) (og_ccn og_n_lt (og_ige (tgt := 134) (og_iload_n (i := 3) (j := 3) (by rfl) (by rfl) d_Model_codesTold_95) (og_f_Model_qCoded (og_aload_n (i := 0) (t := 15) (j := 0) (by rfl) (by rfl) d_Model_codesTold_96) og_w1234 d_Model_codesTold_97) d_Model_codesTold_100 (by decide))) (og_sseq (og_iastore (N := 3200) (og_f_Model_codes (og_aload_n (i := 0) (t := 15) (j := 0) (by rfl) (by rfl) d_Model_codesTold_103) og_w1188 d_Model_codesTold_104) (by rfl) (og_f_Model_coded (og_aload_n (i := 0) (t := 15) (j := 0) (by rfl) (by rfl) d_Model_codesTold_107) og_w1189 d_Model_codesTold_108) (og_iald (N := 1700) (og_f_Model_qCodes (og_aload_n (i := 0) (t := 15) (j := 0) (by rfl) (by rfl) d_Model_codesTold_111) og_w1233 d_Model_codesTold_112) (by rfl) (og_iload_n (i := 3) (j := 3) (by rfl) (by rfl) d_Model_codesTold_115) d_Model_codesTold_116) d_Model_codesTold_117) (og_qadd_Model_coded (og_aload_n (i := 0) (t := 15) (j := 0) (by rfl) (by rfl) d_Model_codesTold_118) d_Model_codesTold_119 d_Model_codesTold_120 (og_iconst (by decide) d_Model_codesTold_123) d_Model_codesTold_124 og_w1189 d_Model_codesTold_125)) (og_gS (b' := 95) (og_iinc (j := 3) (lt' := [(0, 17), (1, 0), (2, 0), (3, 0)]) (by rfl) (by decide) (by decide) d_Model_codesTold_128) d_Model_codesTold_131 (by decide)))) (by decide)) (og_iastore (N := 10) (og_f_Model_codeEnd (og_aload_n (i := 0) (t := 15) (j := 0) (by rfl) (by rfl) d_Model_codesTold_134) og_w1187 d_Model_codesTold_135) (by rfl) (og_iload_n (i := 1) (j := 1) (by rfl) (by rfl) d_Model_codesTold_138) (og_f_Model_coded (og_aload_n (i := 0) (t := 15) (j := 0) (by rfl) (by rfl) d_Model_codesTold_139) og_w1189 d_Model_codesTold_140) d_Model_codesTold_143)))))))))))) (fun _ => d_Model_codesTold_144)
abbrev og_c_Model_statementTold : ByteArray := prog_14_method_25_code
abbrev og_y_Model_statementTold : MethodName := ⟨"OpenGravesModel", "statementTold", "()V"⟩
theorem v_Model_statementTold {own : String} {idx dep : Nat} (h : 11 + 1 ≤ dep) : og_sV own idx og_y_Model_statementTold og_c_Model_statementTold 2 2 11 dep 13 0 := ⟨⟨12, og_sl_Model, og_T_Model, 102, rfl, by decide, rfl⟩, og_w1470, (og_memP (⟨"OpenGravesModel", "statementTold", "()V"⟩, 102) (List.mem_of_getElem? (i := 52) (by decide +kernel))), og_w17, og_w1471, ⟨by decide +kernel, by decide +kernel, by decide +kernel⟩, h, by decide⟩
theorem d_Model_statementTold_0 : decode og_c_Model_statementTold 0 = .ok (.aload_n 0, 1) := by decide +kernel
theorem d_Model_statementTold_1 : decode og_c_Model_statementTold 1 = .ok (.getfield 248, 3) := by decide +kernel
theorem d_Model_statementTold_4 : decode og_c_Model_statementTold 4 = .ok (.istore_n 1, 1) := by decide +kernel
theorem d_Model_statementTold_5 : decode og_c_Model_statementTold 5 = .ok (.aload_n 0, 1) := by decide +kernel
theorem d_Model_statementTold_6 : decode og_c_Model_statementTold 6 = .ok (.aload_n 0, 1) := by decide +kernel
theorem d_Model_statementTold_7 : decode og_c_Model_statementTold 7 = .ok (.getfield 20, 3) := by decide +kernel
theorem d_Model_statementTold_10 : decode og_c_Model_statementTold 10 = .ok (.invokevirtual 269, 3) := by decide +kernel
theorem d_Model_statementTold_13 : decode og_c_Model_statementTold 13 = .ok (.ifCond .eq 11, 3) := by decide +kernel
theorem d_Model_statementTold_16 : decode og_c_Model_statementTold 16 = .ok (.aload_n 0, 1) := by decide +kernel
theorem d_Model_statementTold_17 : decode og_c_Model_statementTold 17 = .ok (.iload_n 1, 1) := by decide +kernel
theorem d_Model_statementTold_18 : decode og_c_Model_statementTold 18 = .ok (.invokevirtual 347, 3) := by decide +kernel
theorem d_Model_statementTold_21 : decode og_c_Model_statementTold 21 = .ok (.goto 116, 3) := by decide +kernel
theorem d_Model_statementTold_24 : decode og_c_Model_statementTold 24 = .ok (.aload_n 0, 1) := by decide +kernel
theorem d_Model_statementTold_25 : decode og_c_Model_statementTold 25 = .ok (.aload_n 0, 1) := by decide +kernel
theorem d_Model_statementTold_26 : decode og_c_Model_statementTold 26 = .ok (.getfield 33, 3) := by decide +kernel
theorem d_Model_statementTold_29 : decode og_c_Model_statementTold 29 = .ok (.invokevirtual 269, 3) := by decide +kernel
theorem d_Model_statementTold_32 : decode og_c_Model_statementTold 32 = .ok (.ifCond .eq 11, 3) := by decide +kernel
theorem d_Model_statementTold_35 : decode og_c_Model_statementTold 35 = .ok (.aload_n 0, 1) := by decide +kernel
theorem d_Model_statementTold_36 : decode og_c_Model_statementTold 36 = .ok (.iload_n 1, 1) := by decide +kernel
theorem d_Model_statementTold_37 : decode og_c_Model_statementTold 37 = .ok (.invokevirtual 351, 3) := by decide +kernel
theorem d_Model_statementTold_40 : decode og_c_Model_statementTold 40 = .ok (.goto 97, 3) := by decide +kernel
theorem d_Model_statementTold_43 : decode og_c_Model_statementTold 43 = .ok (.aload_n 0, 1) := by decide +kernel
theorem d_Model_statementTold_44 : decode og_c_Model_statementTold 44 = .ok (.aload_n 0, 1) := by decide +kernel
theorem d_Model_statementTold_45 : decode og_c_Model_statementTold 45 = .ok (.getfield 45, 3) := by decide +kernel
theorem d_Model_statementTold_48 : decode og_c_Model_statementTold 48 = .ok (.invokevirtual 269, 3) := by decide +kernel
theorem d_Model_statementTold_51 : decode og_c_Model_statementTold 51 = .ok (.ifCond .eq 12, 3) := by decide +kernel
theorem d_Model_statementTold_54 : decode og_c_Model_statementTold 54 = .ok (.aload_n 0, 1) := by decide +kernel
theorem d_Model_statementTold_55 : decode og_c_Model_statementTold 55 = .ok (.iconst 0, 1) := by decide +kernel
theorem d_Model_statementTold_56 : decode og_c_Model_statementTold 56 = .ok (.iload_n 1, 1) := by decide +kernel
theorem d_Model_statementTold_57 : decode og_c_Model_statementTold 57 = .ok (.invokevirtual 354, 3) := by decide +kernel
theorem d_Model_statementTold_60 : decode og_c_Model_statementTold 60 = .ok (.goto 77, 3) := by decide +kernel
theorem d_Model_statementTold_63 : decode og_c_Model_statementTold 63 = .ok (.aload_n 0, 1) := by decide +kernel
theorem d_Model_statementTold_64 : decode og_c_Model_statementTold 64 = .ok (.aload_n 0, 1) := by decide +kernel
theorem d_Model_statementTold_65 : decode og_c_Model_statementTold 65 = .ok (.getfield 48, 3) := by decide +kernel
theorem d_Model_statementTold_68 : decode og_c_Model_statementTold 68 = .ok (.invokevirtual 269, 3) := by decide +kernel
theorem d_Model_statementTold_71 : decode og_c_Model_statementTold 71 = .ok (.ifCond .eq 12, 3) := by decide +kernel
theorem d_Model_statementTold_74 : decode og_c_Model_statementTold 74 = .ok (.aload_n 0, 1) := by decide +kernel
theorem d_Model_statementTold_75 : decode og_c_Model_statementTold 75 = .ok (.iconst 1, 1) := by decide +kernel
theorem d_Model_statementTold_76 : decode og_c_Model_statementTold 76 = .ok (.iload_n 1, 1) := by decide +kernel
theorem d_Model_statementTold_77 : decode og_c_Model_statementTold 77 = .ok (.invokevirtual 354, 3) := by decide +kernel
theorem d_Model_statementTold_80 : decode og_c_Model_statementTold 80 = .ok (.goto 57, 3) := by decide +kernel
theorem d_Model_statementTold_83 : decode og_c_Model_statementTold 83 = .ok (.aload_n 0, 1) := by decide +kernel
theorem d_Model_statementTold_84 : decode og_c_Model_statementTold 84 = .ok (.aload_n 0, 1) := by decide +kernel
theorem d_Model_statementTold_85 : decode og_c_Model_statementTold 85 = .ok (.getfield 51, 3) := by decide +kernel
theorem d_Model_statementTold_88 : decode og_c_Model_statementTold 88 = .ok (.invokevirtual 269, 3) := by decide +kernel
theorem d_Model_statementTold_91 : decode og_c_Model_statementTold 91 = .ok (.ifCond .eq 12, 3) := by decide +kernel
theorem d_Model_statementTold_94 : decode og_c_Model_statementTold 94 = .ok (.aload_n 0, 1) := by decide +kernel
theorem d_Model_statementTold_95 : decode og_c_Model_statementTold 95 = .ok (.iconst 2, 1) := by decide +kernel
theorem d_Model_statementTold_96 : decode og_c_Model_statementTold 96 = .ok (.iload_n 1, 1) := by decide +kernel
theorem d_Model_statementTold_97 : decode og_c_Model_statementTold 97 = .ok (.invokevirtual 354, 3) := by decide +kernel
theorem d_Model_statementTold_100 : decode og_c_Model_statementTold 100 = .ok (.goto 37, 3) := by decide +kernel
theorem d_Model_statementTold_103 : decode og_c_Model_statementTold 103 = .ok (.aload_n 0, 1) := by decide +kernel
theorem d_Model_statementTold_104 : decode og_c_Model_statementTold 104 = .ok (.aload_n 0, 1) := by decide +kernel
theorem d_Model_statementTold_105 : decode og_c_Model_statementTold 105 = .ok (.getfield 54, 3) := by decide +kernel
theorem d_Model_statementTold_108 : decode og_c_Model_statementTold 108 = .ok (.invokevirtual 269, 3) := by decide +kernel
theorem d_Model_statementTold_111 : decode og_c_Model_statementTold 111 = .ok (.ifCond .eq 12, 3) := by decide +kernel
theorem d_Model_statementTold_114 : decode og_c_Model_statementTold 114 = .ok (.aload_n 0, 1) := by decide +kernel
theorem d_Model_statementTold_115 : decode og_c_Model_statementTold 115 = .ok (.iconst 3, 1) := by decide +kernel
theorem d_Model_statementTold_116 : decode og_c_Model_statementTold 116 = .ok (.iload_n 1, 1) := by decide +kernel
theorem d_Model_statementTold_117 : decode og_c_Model_statementTold 117 = .ok (.invokevirtual 354, 3) := by decide +kernel
theorem d_Model_statementTold_120 : decode og_c_Model_statementTold 120 = .ok (.goto 17, 3) := by decide +kernel
theorem d_Model_statementTold_123 : decode og_c_Model_statementTold 123 = .ok (.aload_n 0, 1) := by decide +kernel
theorem d_Model_statementTold_124 : decode og_c_Model_statementTold 124 = .ok (.aload_n 0, 1) := by decide +kernel
theorem d_Model_statementTold_125 : decode og_c_Model_statementTold 125 = .ok (.getfield 57, 3) := by decide +kernel
theorem d_Model_statementTold_128 : decode og_c_Model_statementTold 128 = .ok (.invokevirtual 314, 3) := by decide +kernel
theorem d_Model_statementTold_131 : decode og_c_Model_statementTold 131 = .ok (.aload_n 0, 1) := by decide +kernel
theorem d_Model_statementTold_132 : decode og_c_Model_statementTold 132 = .ok (.iconst 4, 1) := by decide +kernel
theorem d_Model_statementTold_133 : decode og_c_Model_statementTold 133 = .ok (.iload_n 1, 1) := by decide +kernel
theorem d_Model_statementTold_134 : decode og_c_Model_statementTold 134 = .ok (.invokevirtual 354, 3) := by decide +kernel
theorem d_Model_statementTold_137 : decode og_c_Model_statementTold 137 = .ok (.aload_n 0, 1) := by decide +kernel
theorem d_Model_statementTold_138 : decode og_c_Model_statementTold 138 = .ok (.bipush 59, 2) := by decide +kernel
theorem d_Model_statementTold_140 : decode og_c_Model_statementTold 140 = .ok (.invokevirtual 357, 3) := by decide +kernel
theorem d_Model_statementTold_143 : decode og_c_Model_statementTold 143 = .ok (.aload_n 0, 1) := by decide +kernel
theorem d_Model_statementTold_144 : decode og_c_Model_statementTold 144 = .ok (.dup, 1) := by decide +kernel
theorem d_Model_statementTold_145 : decode og_c_Model_statementTold 145 = .ok (.getfield 360, 3) := by decide +kernel
theorem d_Model_statementTold_148 : decode og_c_Model_statementTold 148 = .ok (.iconst 1, 1) := by decide +kernel
theorem d_Model_statementTold_149 : decode og_c_Model_statementTold 149 = .ok (.iadd, 1) := by decide +kernel
theorem d_Model_statementTold_150 : decode og_c_Model_statementTold 150 = .ok (.putfield 360, 3) := by decide +kernel
theorem d_Model_statementTold_153 : decode og_c_Model_statementTold 153 = .ok (.return_, 1) := by decide +kernel
def m_Model_statementTold : og_Dn := og_den [17] 2 2 (og_seq (og_set 1 (og_get 2 (og_loc 0))) (og_cut (og_if (og_cb (og_call m_Model_takes [og_loc 0, og_fix (fun _ => 1003) (og_loc 0)])) (og_exp (og_call m_Model_graveTold [og_loc 0, og_loc 1])) (og_if (og_cb (og_call m_Model_takes [og_loc 0, og_fix (fun _ => 1007) (og_loc 0)])) (og_exp (og_call m_Model_personTold [og_loc 0, og_loc 1])) (og_if (og_cb (og_call m_Model_takes [og_loc 0, og_fix (fun _ => 1011) (og_loc 0)])) (og_exp (og_call m_Model_codesTold [og_loc 0, og_k 0, og_loc 1])) (og_if (og_cb (og_call m_Model_takes [og_loc 0, og_fix (fun _ => 1012) (og_loc 0)])) (og_exp (og_call m_Model_codesTold [og_loc 0, og_k 1, og_loc 1])) (og_if (og_cb (og_call m_Model_takes [og_loc 0, og_fix (fun _ => 1013) (og_loc 0)])) (og_exp (og_call m_Model_codesTold [og_loc 0, og_k 2, og_loc 1])) (og_if (og_cb (og_call m_Model_takes [og_loc 0, og_fix (fun _ => 1014) (og_loc 0)])) (og_exp (og_call m_Model_codesTold [og_loc 0, og_k 3, og_loc 1])) (og_seq (og_exp (og_call m_Model_asks [og_loc 0, og_fix (fun _ => 1015) (og_loc 0)])) (og_exp (og_call m_Model_codesTold [og_loc 0, og_k 4, og_loc 1]))))))))) (og_seq (og_exp (og_call m_Model_asksSign [og_loc 0, og_k 59])) (og_pop32 og_padd 47 (og_loc 0) (og_k 1)))))
set_option maxRecDepth 20000 in
theorem ok_Model_statementTold : og_MOK og_y_Model_statementTold og_c_Model_statementTold 2 2 11 [17] m_Model_statementTold := og_method (b := 153) (lt' := [(0, 17)]) (by decide +kernel) (by decide) (by decide) (og_sdrop (lt' := [(0, 17), (1, 0)]) (lt2 := [(0, 17)]) (og_sseq (og_istore_n (i := 1) (lt' := [(0, 17), (1, 0)]) (og_f_Model_at (og_aload_n (i := 0) (t := 15) (j := 0) (by rfl) (by rfl) d_Model_statementTold_0) og_w1145 d_Model_statementTold_1) (by rfl) (by decide) (by decide) d_Model_statementTold_4) (og_scut (og_sif (T := 16) (F := 24) (og_cbeq (tgt := 24) (og_callVz (og_acons (og_aload_n (i := 0) (t := 15) (j := 0) (by rfl) (by rfl) d_Model_statementTold_5) (og_acons (og_genc (og_f_Model_graveWord (og_aload_n (i := 0) (t := 15) (j := 0) (by rfl) (by rfl) d_Model_statementTold_6) og_w1154 d_Model_statementTold_7) (by rfl)) (og_anil))) (by decide) ok_Model_takes (v_Model_takes (by decide)) og_w1472 d_Model_statementTold_10) d_Model_statementTold_13 (by decide)) (og_gS (b' := 137) (og_callVv (og_acons (og_aload_n (i := 0) (t := 15) (j := 0) (by rfl) (by rfl) d_Model_statementTold_16) (og_acons (og_iload_n (i := 1) (j := 1) (by rfl) (by rfl) d_Model_statementTold_17) (og_anil))) ok_Model_graveTold (v_Model_graveTold (by decide)) og_w1483 d_Model_statementTold_18) d_Model_statementTold_21 (by decide)) (og_sif (T := 35) (F := 43) (og_cbeq (tgt := 43) (og_callVz (og_acons (og_aload_n (i := 0) (t := 15) (j := 0) (by rfl) (by rfl) d_Model_statementTold_24) (og_acons (og_genc (og_f_Model_personWord (og_aload_n (i := 0) (t := 15) (j := 0) (by rfl) (by rfl) d_Model_statementTold_25) og_w1158 d_Model_statementTold_26) (by rfl)) (og_anil))) (by decide) ok_Model_takes (v_Model_takes (by decide)) og_w1472 d_Model_statementTold_29) d_Model_statementTold_32 (by decide)) (og_gS (b' := 137) (og_callVv (og_acons (og_aload_n (i := 0) (t := 15) (j := 0) (by rfl) (by rfl) d_Model_statementTold_35) (og_acons (og_iload_n (i := 1) (j := 1) (by rfl) (by rfl) d_Model_statementTold_36) (og_anil))) ok_Model_personTold (v_Model_personTold (by decide)) og_w1523 d_Model_statementTold_37) d_Model_statementTold_40 (by decide)) (og_sif (T := 54) (F := 63) (og_cbeq (tgt := 63) (og_callVz (og_acons (og_aload_n (i := 0) (t := 15) (j := 0) (by rfl) (by rfl) d_Model_statementTold_43) (og_acons (og_genc (og_f_Model_diesWord (og_aload_n (i := 0) (t := 15) (j := 0) (by rfl) (by rfl) d_Model_statementTold_44) og_w1162 d_Model_statementTold_45) (by rfl)) (og_anil))) (by decide) ok_Model_takes (v_Model_takes (by decide)) og_w1472 d_Model_statementTold_48) d_Model_statementTold_51 (by decide)) (og_gS (b' := 137) (og_callVv (og_acons (og_aload_n (i := 0) (t := 15) (j := 0) (by rfl) (by rfl) d_Model_statementTold_54) (og_acons (og_iconst (by decide) d_Model_statementTold_55) (og_acons (og_iload_n (i := 1) (j := 1) (by rfl) (by rfl) d_Model_statementTold_56) (og_anil)))) ok_Model_codesTold (v_Model_codesTold (by decide)) og_w1527 d_Model_statementTold_57) d_Model_statementTold_60 (by decide)) (og_sif (T := 74) (F := 83) (og_cbeq (tgt := 83) (og_callVz (og_acons (og_aload_n (i := 0) (t := 15) (j := 0) (by rfl) (by rfl) d_Model_statementTold_63) (og_acons (og_genc (og_f_Model_comesWord (og_aload_n (i := 0) (t := 15) (j := 0) (by rfl) (by rfl) d_Model_statementTold_64) og_w1163 d_Model_statementTold_65) (by rfl)) (og_anil))) (by decide) ok_Model_takes (v_Model_takes (by decide)) og_w1472 d_Model_statementTold_68) d_Model_statementTold_71 (by decide)) (og_gS (b' := 137) (og_callVv (og_acons (og_aload_n (i := 0) (t := 15) (j := 0) (by rfl) (by rfl) d_Model_statementTold_74) (og_acons (og_iconst (by decide) d_Model_statementTold_75) (og_acons (og_iload_n (i := 1) (j := 1) (by rfl) (by rfl) d_Model_statementTold_76) (og_anil)))) ok_Model_codesTold (v_Model_codesTold (by decide)) og_w1527 d_Model_statementTold_77) d_Model_statementTold_80 (by decide)) (og_sif (T := 94) (F := 103) (og_cbeq (tgt := 103) (og_callVz (og_acons (og_aload_n (i := 0) (t := 15) (j := 0) (by rfl) (by rfl) d_Model_statementTold_83) (og_acons (og_genc (og_f_Model_takesWord (og_aload_n (i := 0) (t := 15) (j := 0) (by rfl) (by rfl) d_Model_statementTold_84) og_w1164 d_Model_statementTold_85) (by rfl)) (og_anil))) (by decide) ok_Model_takes (v_Model_takes (by decide)) og_w1472 d_Model_statementTold_88) d_Model_statementTold_91 (by decide)) (og_gS (b' := 137) (og_callVv (og_acons (og_aload_n (i := 0) (t := 15) (j := 0) (by rfl) (by rfl) d_Model_statementTold_94) (og_acons (og_iconst (by decide) d_Model_statementTold_95) (og_acons (og_iload_n (i := 1) (j := 1) (by rfl) (by rfl) d_Model_statementTold_96) (og_anil)))) ok_Model_codesTold (v_Model_codesTold (by decide)) og_w1527 d_Model_statementTold_97) d_Model_statementTold_100 (by decide)) (og_sif (T := 114) (F := 123) (og_cbeq (tgt := 123) (og_callVz (og_acons (og_aload_n (i := 0) (t := 15) (j := 0) (by rfl) (by rfl) d_Model_statementTold_103) (og_acons (og_genc (og_f_Model_heartWord (og_aload_n (i := 0) (t := 15) (j := 0) (by rfl) (by rfl) d_Model_statementTold_104) og_w1165 d_Model_statementTold_105) (by rfl)) (og_anil))) (by decide) ok_Model_takes (v_Model_takes (by decide)) og_w1472 d_Model_statementTold_108) d_Model_statementTold_111 (by decide)) (og_gS (b' := 137) (og_callVv (og_acons (og_aload_n (i := 0) (t := 15) (j := 0) (by rfl) (by rfl) d_Model_statementTold_114) (og_acons (og_iconst (by decide) d_Model_statementTold_115) (og_acons (og_iload_n (i := 1) (j := 1) (by rfl) (by rfl) d_Model_statementTold_116) (og_anil)))) ok_Model_codesTold (v_Model_codesTold (by decide)) og_w1527 d_Model_statementTold_117) d_Model_statementTold_120 (by decide)) (og_sseq (og_callVv (og_acons (og_aload_n (i := 0) (t := 15) (j := 0) (by rfl) (by rfl) d_Model_statementTold_123) (og_acons (og_genc (og_f_Model_harmWord (og_aload_n (i := 0) (t := 15) (j := 0) (by rfl) (by rfl) d_Model_statementTold_124) og_w1166 d_Model_statementTold_125) (by rfl)) (og_anil))) ok_Model_asks (v_Model_asks (by decide)) og_w1509 d_Model_statementTold_128) (og_callVv (og_acons (og_aload_n (i := 0) (t := 15) (j := 0) (by rfl) (by rfl) d_Model_statementTold_131) (og_acons (og_iconst (by decide) d_Model_statementTold_132) (og_acons (og_iload_n (i := 1) (j := 1) (by rfl) (by rfl) d_Model_statementTold_133) (og_anil)))) ok_Model_codesTold (v_Model_codesTold (by decide)) og_w1527 d_Model_statementTold_134)))))))) (og_sseq (og_callVv (og_acons (og_aload_n (i := 0) (t := 15) (j := 0) (by rfl) (by rfl) d_Model_statementTold_137) (og_acons (og_bipush (by decide) d_Model_statementTold_138) (og_anil))) ok_Model_asksSign (v_Model_asksSign (by decide)) og_w1570 d_Model_statementTold_140) (og_qadd_Model_statements (og_aload_n (i := 0) (t := 15) (j := 0) (by rfl) (by rfl) d_Model_statementTold_143) d_Model_statementTold_144 d_Model_statementTold_145 (og_iconst (by decide) d_Model_statementTold_148) d_Model_statementTold_149 og_w1190 d_Model_statementTold_150)))) (by decide)) (fun _ => d_Model_statementTold_153)
abbrev og_c_Model_stands : ByteArray := prog_14_method_27_code
abbrev og_y_Model_stands : MethodName := ⟨"OpenGravesModel", "stands", "()V"⟩
theorem v_Model_stands {own : String} {idx dep : Nat} (h : 1 + 1 ≤ dep) : og_sV own idx og_y_Model_stands og_c_Model_stands 2 2 1 dep 13 0 := ⟨⟨12, og_sl_Model, og_T_Model, 102, rfl, by decide, rfl⟩, og_w1623, (og_memP (⟨"OpenGravesModel", "stands", "()V"⟩, 102) (List.mem_of_getElem? (i := 86) (by decide +kernel))), og_w17, og_w1624, ⟨by decide +kernel, by decide +kernel, by decide +kernel⟩, h, by decide⟩
theorem d_Model_stands_0 : decode og_c_Model_stands 0 = .ok (.iconst 0, 1) := by decide +kernel
theorem d_Model_stands_1 : decode og_c_Model_stands 1 = .ok (.istore_n 1, 1) := by decide +kernel
theorem d_Model_stands_2 : decode og_c_Model_stands 2 = .ok (.iload_n 1, 1) := by decide +kernel
theorem d_Model_stands_3 : decode og_c_Model_stands 3 = .ok (.iconst 2, 1) := by decide +kernel
theorem d_Model_stands_4 : decode og_c_Model_stands 4 = .ok (.if_icmp .ge 23, 3) := by decide +kernel
theorem d_Model_stands_7 : decode og_c_Model_stands 7 = .ok (.aload_n 0, 1) := by decide +kernel
theorem d_Model_stands_8 : decode og_c_Model_stands 8 = .ok (.getfield 96, 3) := by decide +kernel
theorem d_Model_stands_11 : decode og_c_Model_stands 11 = .ok (.iconst 2, 1) := by decide +kernel
theorem d_Model_stands_12 : decode og_c_Model_stands 12 = .ok (.iload_n 1, 1) := by decide +kernel
theorem d_Model_stands_13 : decode og_c_Model_stands 13 = .ok (.iadd, 1) := by decide +kernel
theorem d_Model_stands_14 : decode og_c_Model_stands 14 = .ok (.aload_n 0, 1) := by decide +kernel
theorem d_Model_stands_15 : decode og_c_Model_stands 15 = .ok (.getfield 96, 3) := by decide +kernel
theorem d_Model_stands_18 : decode og_c_Model_stands 18 = .ok (.iload_n 1, 1) := by decide +kernel
theorem d_Model_stands_19 : decode og_c_Model_stands 19 = .ok (.iaload, 1) := by decide +kernel
theorem d_Model_stands_20 : decode og_c_Model_stands 20 = .ok (.iastore, 1) := by decide +kernel
theorem d_Model_stands_21 : decode og_c_Model_stands 21 = .ok (.iinc 1 1, 3) := by decide +kernel
theorem d_Model_stands_24 : decode og_c_Model_stands 24 = .ok (.goto (-22), 3) := by decide +kernel
theorem d_Model_stands_27 : decode og_c_Model_stands 27 = .ok (.iconst 0, 1) := by decide +kernel
theorem d_Model_stands_28 : decode og_c_Model_stands 28 = .ok (.istore_n 1, 1) := by decide +kernel
theorem d_Model_stands_29 : decode og_c_Model_stands 29 = .ok (.iload_n 1, 1) := by decide +kernel
theorem d_Model_stands_30 : decode og_c_Model_stands 30 = .ok (.iconst 5, 1) := by decide +kernel
theorem d_Model_stands_31 : decode og_c_Model_stands 31 = .ok (.if_icmp .ge 37, 3) := by decide +kernel
theorem d_Model_stands_34 : decode og_c_Model_stands 34 = .ok (.aload_n 0, 1) := by decide +kernel
theorem d_Model_stands_35 : decode og_c_Model_stands 35 = .ok (.getfield 115, 3) := by decide +kernel
theorem d_Model_stands_38 : decode og_c_Model_stands 38 = .ok (.iconst 5, 1) := by decide +kernel
theorem d_Model_stands_39 : decode og_c_Model_stands 39 = .ok (.iload_n 1, 1) := by decide +kernel
theorem d_Model_stands_40 : decode og_c_Model_stands 40 = .ok (.iadd, 1) := by decide +kernel
theorem d_Model_stands_41 : decode og_c_Model_stands 41 = .ok (.aload_n 0, 1) := by decide +kernel
theorem d_Model_stands_42 : decode og_c_Model_stands 42 = .ok (.getfield 115, 3) := by decide +kernel
theorem d_Model_stands_45 : decode og_c_Model_stands 45 = .ok (.iload_n 1, 1) := by decide +kernel
theorem d_Model_stands_46 : decode og_c_Model_stands 46 = .ok (.iaload, 1) := by decide +kernel
theorem d_Model_stands_47 : decode og_c_Model_stands 47 = .ok (.iastore, 1) := by decide +kernel
theorem d_Model_stands_48 : decode og_c_Model_stands 48 = .ok (.aload_n 0, 1) := by decide +kernel
theorem d_Model_stands_49 : decode og_c_Model_stands 49 = .ok (.getfield 118, 3) := by decide +kernel
theorem d_Model_stands_52 : decode og_c_Model_stands 52 = .ok (.iconst 5, 1) := by decide +kernel
theorem d_Model_stands_53 : decode og_c_Model_stands 53 = .ok (.iload_n 1, 1) := by decide +kernel
theorem d_Model_stands_54 : decode og_c_Model_stands 54 = .ok (.iadd, 1) := by decide +kernel
theorem d_Model_stands_55 : decode og_c_Model_stands 55 = .ok (.aload_n 0, 1) := by decide +kernel
theorem d_Model_stands_56 : decode og_c_Model_stands 56 = .ok (.getfield 118, 3) := by decide +kernel
theorem d_Model_stands_59 : decode og_c_Model_stands 59 = .ok (.iload_n 1, 1) := by decide +kernel
theorem d_Model_stands_60 : decode og_c_Model_stands 60 = .ok (.iaload, 1) := by decide +kernel
theorem d_Model_stands_61 : decode og_c_Model_stands 61 = .ok (.iastore, 1) := by decide +kernel
theorem d_Model_stands_62 : decode og_c_Model_stands 62 = .ok (.iinc 1 1, 3) := by decide +kernel
theorem d_Model_stands_65 : decode og_c_Model_stands 65 = .ok (.goto (-36), 3) := by decide +kernel
theorem d_Model_stands_68 : decode og_c_Model_stands 68 = .ok (.iconst 0, 1) := by decide +kernel
theorem d_Model_stands_69 : decode og_c_Model_stands 69 = .ok (.istore_n 1, 1) := by decide +kernel
theorem d_Model_stands_70 : decode og_c_Model_stands 70 = .ok (.iload_n 1, 1) := by decide +kernel
theorem d_Model_stands_71 : decode og_c_Model_stands 71 = .ok (.bipush 16, 2) := by decide +kernel
theorem d_Model_stands_73 : decode og_c_Model_stands 73 = .ok (.if_icmp .ge 24, 3) := by decide +kernel
theorem d_Model_stands_76 : decode og_c_Model_stands 76 = .ok (.aload_n 0, 1) := by decide +kernel
theorem d_Model_stands_77 : decode og_c_Model_stands 77 = .ok (.getfield 99, 3) := by decide +kernel
theorem d_Model_stands_80 : decode og_c_Model_stands 80 = .ok (.bipush 16, 2) := by decide +kernel
theorem d_Model_stands_82 : decode og_c_Model_stands 82 = .ok (.iload_n 1, 1) := by decide +kernel
theorem d_Model_stands_83 : decode og_c_Model_stands 83 = .ok (.iadd, 1) := by decide +kernel
theorem d_Model_stands_84 : decode og_c_Model_stands 84 = .ok (.aload_n 0, 1) := by decide +kernel
theorem d_Model_stands_85 : decode og_c_Model_stands 85 = .ok (.getfield 99, 3) := by decide +kernel
theorem d_Model_stands_88 : decode og_c_Model_stands 88 = .ok (.iload_n 1, 1) := by decide +kernel
theorem d_Model_stands_89 : decode og_c_Model_stands 89 = .ok (.laload, 1) := by decide +kernel
theorem d_Model_stands_90 : decode og_c_Model_stands 90 = .ok (.lastore, 1) := by decide +kernel
theorem d_Model_stands_91 : decode og_c_Model_stands 91 = .ok (.iinc 1 1, 3) := by decide +kernel
theorem d_Model_stands_94 : decode og_c_Model_stands 94 = .ok (.goto (-24), 3) := by decide +kernel
theorem d_Model_stands_97 : decode og_c_Model_stands 97 = .ok (.iconst 0, 1) := by decide +kernel
theorem d_Model_stands_98 : decode og_c_Model_stands 98 = .ok (.istore_n 1, 1) := by decide +kernel
theorem d_Model_stands_99 : decode og_c_Model_stands 99 = .ok (.iload_n 1, 1) := by decide +kernel
theorem d_Model_stands_100 : decode og_c_Model_stands 100 = .ok (.bipush 6, 2) := by decide +kernel
theorem d_Model_stands_102 : decode og_c_Model_stands 102 = .ok (.if_icmp .ge 24, 3) := by decide +kernel
theorem d_Model_stands_105 : decode og_c_Model_stands 105 = .ok (.aload_n 0, 1) := by decide +kernel
theorem d_Model_stands_106 : decode og_c_Model_stands 106 = .ok (.getfield 103, 3) := by decide +kernel
theorem d_Model_stands_109 : decode og_c_Model_stands 109 = .ok (.bipush 6, 2) := by decide +kernel
theorem d_Model_stands_111 : decode og_c_Model_stands 111 = .ok (.iload_n 1, 1) := by decide +kernel
theorem d_Model_stands_112 : decode og_c_Model_stands 112 = .ok (.iadd, 1) := by decide +kernel
theorem d_Model_stands_113 : decode og_c_Model_stands 113 = .ok (.aload_n 0, 1) := by decide +kernel
theorem d_Model_stands_114 : decode og_c_Model_stands 114 = .ok (.getfield 103, 3) := by decide +kernel
theorem d_Model_stands_117 : decode og_c_Model_stands 117 = .ok (.iload_n 1, 1) := by decide +kernel
theorem d_Model_stands_118 : decode og_c_Model_stands 118 = .ok (.iaload, 1) := by decide +kernel
theorem d_Model_stands_119 : decode og_c_Model_stands 119 = .ok (.iastore, 1) := by decide +kernel
theorem d_Model_stands_120 : decode og_c_Model_stands 120 = .ok (.iinc 1 1, 3) := by decide +kernel
theorem d_Model_stands_123 : decode og_c_Model_stands 123 = .ok (.goto (-24), 3) := by decide +kernel
theorem d_Model_stands_126 : decode og_c_Model_stands 126 = .ok (.iconst 0, 1) := by decide +kernel
theorem d_Model_stands_127 : decode og_c_Model_stands 127 = .ok (.istore_n 1, 1) := by decide +kernel
theorem d_Model_stands_128 : decode og_c_Model_stands 128 = .ok (.iload_n 1, 1) := by decide +kernel
theorem d_Model_stands_129 : decode og_c_Model_stands 129 = .ok (.bipush 8, 2) := by decide +kernel
theorem d_Model_stands_131 : decode og_c_Model_stands 131 = .ok (.if_icmp .ge 24, 3) := by decide +kernel
theorem d_Model_stands_134 : decode og_c_Model_stands 134 = .ok (.aload_n 0, 1) := by decide +kernel
theorem d_Model_stands_135 : decode og_c_Model_stands 135 = .ok (.getfield 106, 3) := by decide +kernel
theorem d_Model_stands_138 : decode og_c_Model_stands 138 = .ok (.bipush 8, 2) := by decide +kernel
theorem d_Model_stands_140 : decode og_c_Model_stands 140 = .ok (.iload_n 1, 1) := by decide +kernel
theorem d_Model_stands_141 : decode og_c_Model_stands 141 = .ok (.iadd, 1) := by decide +kernel
theorem d_Model_stands_142 : decode og_c_Model_stands 142 = .ok (.aload_n 0, 1) := by decide +kernel
theorem d_Model_stands_143 : decode og_c_Model_stands 143 = .ok (.getfield 106, 3) := by decide +kernel
theorem d_Model_stands_146 : decode og_c_Model_stands 146 = .ok (.iload_n 1, 1) := by decide +kernel
theorem d_Model_stands_147 : decode og_c_Model_stands 147 = .ok (.iaload, 1) := by decide +kernel
theorem d_Model_stands_148 : decode og_c_Model_stands 148 = .ok (.iastore, 1) := by decide +kernel
theorem d_Model_stands_149 : decode og_c_Model_stands 149 = .ok (.iinc 1 1, 3) := by decide +kernel
theorem d_Model_stands_152 : decode og_c_Model_stands 152 = .ok (.goto (-24), 3) := by decide +kernel
theorem d_Model_stands_155 : decode og_c_Model_stands 155 = .ok (.iconst 0, 1) := by decide +kernel
theorem d_Model_stands_156 : decode og_c_Model_stands 156 = .ok (.istore_n 1, 1) := by decide +kernel
theorem d_Model_stands_157 : decode og_c_Model_stands 157 = .ok (.iload_n 1, 1) := by decide +kernel
theorem d_Model_stands_158 : decode og_c_Model_stands 158 = .ok (.aload_n 0, 1) := by decide +kernel
theorem d_Model_stands_159 : decode og_c_Model_stands 159 = .ok (.getfield 344, 3) := by decide +kernel
theorem d_Model_stands_162 : decode og_c_Model_stands 162 = .ok (.if_icmp .ge 25, 3) := by decide +kernel
theorem d_Model_stands_165 : decode og_c_Model_stands 165 = .ok (.aload_n 0, 1) := by decide +kernel
theorem d_Model_stands_166 : decode og_c_Model_stands 166 = .ok (.getfield 121, 3) := by decide +kernel
theorem d_Model_stands_169 : decode og_c_Model_stands 169 = .ok (.sipush 1600, 3) := by decide +kernel
theorem d_Model_stands_172 : decode og_c_Model_stands 172 = .ok (.iload_n 1, 1) := by decide +kernel
theorem d_Model_stands_173 : decode og_c_Model_stands 173 = .ok (.iadd, 1) := by decide +kernel
theorem d_Model_stands_174 : decode og_c_Model_stands 174 = .ok (.aload_n 0, 1) := by decide +kernel
theorem d_Model_stands_175 : decode og_c_Model_stands 175 = .ok (.getfield 121, 3) := by decide +kernel
theorem d_Model_stands_178 : decode og_c_Model_stands 178 = .ok (.iload_n 1, 1) := by decide +kernel
theorem d_Model_stands_179 : decode og_c_Model_stands 179 = .ok (.iaload, 1) := by decide +kernel
theorem d_Model_stands_180 : decode og_c_Model_stands 180 = .ok (.iastore, 1) := by decide +kernel
theorem d_Model_stands_181 : decode og_c_Model_stands 181 = .ok (.iinc 1 1, 3) := by decide +kernel
theorem d_Model_stands_184 : decode og_c_Model_stands 184 = .ok (.goto (-27), 3) := by decide +kernel
theorem d_Model_stands_187 : decode og_c_Model_stands 187 = .ok (.iconst 0, 1) := by decide +kernel
theorem d_Model_stands_188 : decode og_c_Model_stands 188 = .ok (.istore_n 1, 1) := by decide +kernel
theorem d_Model_stands_189 : decode og_c_Model_stands 189 = .ok (.iload_n 1, 1) := by decide +kernel
theorem d_Model_stands_190 : decode og_c_Model_stands 190 = .ok (.sipush 204, 3) := by decide +kernel
theorem d_Model_stands_193 : decode og_c_Model_stands 193 = .ok (.if_icmp .ge 16, 3) := by decide +kernel
theorem d_Model_stands_196 : decode og_c_Model_stands 196 = .ok (.aload_n 0, 1) := by decide +kernel
theorem d_Model_stands_197 : decode og_c_Model_stands 197 = .ok (.getfield 124, 3) := by decide +kernel
theorem d_Model_stands_200 : decode og_c_Model_stands 200 = .ok (.iload_n 1, 1) := by decide +kernel
theorem d_Model_stands_201 : decode og_c_Model_stands 201 = .ok (.iconst 0, 1) := by decide +kernel
theorem d_Model_stands_202 : decode og_c_Model_stands 202 = .ok (.iastore, 1) := by decide +kernel
theorem d_Model_stands_203 : decode og_c_Model_stands 203 = .ok (.iinc 1 1, 3) := by decide +kernel
theorem d_Model_stands_206 : decode og_c_Model_stands 206 = .ok (.goto (-17), 3) := by decide +kernel
theorem d_Model_stands_209 : decode og_c_Model_stands 209 = .ok (.iconst 0, 1) := by decide +kernel
theorem d_Model_stands_210 : decode og_c_Model_stands 210 = .ok (.istore_n 1, 1) := by decide +kernel
theorem d_Model_stands_211 : decode og_c_Model_stands 211 = .ok (.iload_n 1, 1) := by decide +kernel
theorem d_Model_stands_212 : decode og_c_Model_stands 212 = .ok (.bipush 6, 2) := by decide +kernel
theorem d_Model_stands_214 : decode og_c_Model_stands 214 = .ok (.if_icmp .ge 20, 3) := by decide +kernel
theorem d_Model_stands_217 : decode og_c_Model_stands 217 = .ok (.aload_n 0, 1) := by decide +kernel
theorem d_Model_stands_218 : decode og_c_Model_stands 218 = .ok (.getfield 124, 3) := by decide +kernel
theorem d_Model_stands_221 : decode og_c_Model_stands 221 = .ok (.iconst 3, 1) := by decide +kernel
theorem d_Model_stands_222 : decode og_c_Model_stands 222 = .ok (.iconst 3, 1) := by decide +kernel
theorem d_Model_stands_223 : decode og_c_Model_stands 223 = .ok (.iload_n 1, 1) := by decide +kernel
theorem d_Model_stands_224 : decode og_c_Model_stands 224 = .ok (.imul, 1) := by decide +kernel
theorem d_Model_stands_225 : decode og_c_Model_stands 225 = .ok (.iadd, 1) := by decide +kernel
theorem d_Model_stands_226 : decode og_c_Model_stands 226 = .ok (.iconst (-1), 1) := by decide +kernel
theorem d_Model_stands_227 : decode og_c_Model_stands 227 = .ok (.iastore, 1) := by decide +kernel
theorem d_Model_stands_228 : decode og_c_Model_stands 228 = .ok (.iinc 1 1, 3) := by decide +kernel
theorem d_Model_stands_231 : decode og_c_Model_stands 231 = .ok (.goto (-20), 3) := by decide +kernel
theorem d_Model_stands_234 : decode og_c_Model_stands 234 = .ok (.iconst 0, 1) := by decide +kernel
theorem d_Model_stands_235 : decode og_c_Model_stands 235 = .ok (.istore_n 1, 1) := by decide +kernel
theorem d_Model_stands_236 : decode og_c_Model_stands 236 = .ok (.iload_n 1, 1) := by decide +kernel
theorem d_Model_stands_237 : decode og_c_Model_stands 237 = .ok (.aload_n 0, 1) := by decide +kernel
theorem d_Model_stands_238 : decode og_c_Model_stands 238 = .ok (.getfield 96, 3) := by decide +kernel
theorem d_Model_stands_241 : decode og_c_Model_stands 241 = .ok (.iconst 0, 1) := by decide +kernel
theorem d_Model_stands_242 : decode og_c_Model_stands 242 = .ok (.iaload, 1) := by decide +kernel
theorem d_Model_stands_243 : decode og_c_Model_stands 243 = .ok (.if_icmp .ge 47, 3) := by decide +kernel
theorem d_Model_stands_246 : decode og_c_Model_stands 246 = .ok (.aload_n 0, 1) := by decide +kernel
theorem d_Model_stands_247 : decode og_c_Model_stands 247 = .ok (.getfield 124, 3) := by decide +kernel
theorem d_Model_stands_250 : decode og_c_Model_stands 250 = .ok (.iconst 1, 1) := by decide +kernel
theorem d_Model_stands_251 : decode og_c_Model_stands 251 = .ok (.iconst 3, 1) := by decide +kernel
theorem d_Model_stands_252 : decode og_c_Model_stands 252 = .ok (.iload_n 1, 1) := by decide +kernel
theorem d_Model_stands_253 : decode og_c_Model_stands 253 = .ok (.imul, 1) := by decide +kernel
theorem d_Model_stands_254 : decode og_c_Model_stands 254 = .ok (.iadd, 1) := by decide +kernel
theorem d_Model_stands_255 : decode og_c_Model_stands 255 = .ok (.aload_n 0, 1) := by decide +kernel
theorem d_Model_stands_256 : decode og_c_Model_stands 256 = .ok (.getfield 109, 3) := by decide +kernel
theorem d_Model_stands_259 : decode og_c_Model_stands 259 = .ok (.iconst 2, 1) := by decide +kernel
theorem d_Model_stands_260 : decode og_c_Model_stands 260 = .ok (.iload_n 1, 1) := by decide +kernel
theorem d_Model_stands_261 : decode og_c_Model_stands 261 = .ok (.imul, 1) := by decide +kernel
theorem d_Model_stands_262 : decode og_c_Model_stands 262 = .ok (.iaload, 1) := by decide +kernel
theorem d_Model_stands_263 : decode og_c_Model_stands 263 = .ok (.iastore, 1) := by decide +kernel
theorem d_Model_stands_264 : decode og_c_Model_stands 264 = .ok (.aload_n 0, 1) := by decide +kernel
theorem d_Model_stands_265 : decode og_c_Model_stands 265 = .ok (.getfield 124, 3) := by decide +kernel
theorem d_Model_stands_268 : decode og_c_Model_stands 268 = .ok (.iconst 2, 1) := by decide +kernel
theorem d_Model_stands_269 : decode og_c_Model_stands 269 = .ok (.iconst 3, 1) := by decide +kernel
theorem d_Model_stands_270 : decode og_c_Model_stands 270 = .ok (.iload_n 1, 1) := by decide +kernel
theorem d_Model_stands_271 : decode og_c_Model_stands 271 = .ok (.imul, 1) := by decide +kernel
theorem d_Model_stands_272 : decode og_c_Model_stands 272 = .ok (.iadd, 1) := by decide +kernel
theorem d_Model_stands_273 : decode og_c_Model_stands 273 = .ok (.aload_n 0, 1) := by decide +kernel
theorem d_Model_stands_274 : decode og_c_Model_stands 274 = .ok (.getfield 109, 3) := by decide +kernel
theorem d_Model_stands_277 : decode og_c_Model_stands 277 = .ok (.iconst 2, 1) := by decide +kernel
theorem d_Model_stands_278 : decode og_c_Model_stands 278 = .ok (.iload_n 1, 1) := by decide +kernel
theorem d_Model_stands_279 : decode og_c_Model_stands 279 = .ok (.imul, 1) := by decide +kernel
theorem d_Model_stands_280 : decode og_c_Model_stands 280 = .ok (.iconst 1, 1) := by decide +kernel
theorem d_Model_stands_281 : decode og_c_Model_stands 281 = .ok (.iadd, 1) := by decide +kernel
theorem d_Model_stands_282 : decode og_c_Model_stands 282 = .ok (.iaload, 1) := by decide +kernel
theorem d_Model_stands_283 : decode og_c_Model_stands 283 = .ok (.iastore, 1) := by decide +kernel
theorem d_Model_stands_284 : decode og_c_Model_stands 284 = .ok (.iinc 1 1, 3) := by decide +kernel
theorem d_Model_stands_287 : decode og_c_Model_stands 287 = .ok (.goto (-51), 3) := by decide +kernel
theorem d_Model_stands_290 : decode og_c_Model_stands 290 = .ok (.iconst 0, 1) := by decide +kernel
theorem d_Model_stands_291 : decode og_c_Model_stands 291 = .ok (.istore_n 1, 1) := by decide +kernel
theorem d_Model_stands_292 : decode og_c_Model_stands 292 = .ok (.iload_n 1, 1) := by decide +kernel
theorem d_Model_stands_293 : decode og_c_Model_stands 293 = .ok (.aload_n 0, 1) := by decide +kernel
theorem d_Model_stands_294 : decode og_c_Model_stands 294 = .ok (.getfield 96, 3) := by decide +kernel
theorem d_Model_stands_297 : decode og_c_Model_stands 297 = .ok (.iconst 1, 1) := by decide +kernel
theorem d_Model_stands_298 : decode og_c_Model_stands 298 = .ok (.iaload, 1) := by decide +kernel
theorem d_Model_stands_299 : decode og_c_Model_stands 299 = .ok (.if_icmp .ge 61, 3) := by decide +kernel
theorem d_Model_stands_302 : decode og_c_Model_stands 302 = .ok (.aload_n 0, 1) := by decide +kernel
theorem d_Model_stands_303 : decode og_c_Model_stands 303 = .ok (.getfield 124, 3) := by decide +kernel
theorem d_Model_stands_306 : decode og_c_Model_stands 306 = .ok (.bipush 19, 2) := by decide +kernel
theorem d_Model_stands_308 : decode og_c_Model_stands 308 = .ok (.iconst 3, 1) := by decide +kernel
theorem d_Model_stands_309 : decode og_c_Model_stands 309 = .ok (.iload_n 1, 1) := by decide +kernel
theorem d_Model_stands_310 : decode og_c_Model_stands 310 = .ok (.imul, 1) := by decide +kernel
theorem d_Model_stands_311 : decode og_c_Model_stands 311 = .ok (.iadd, 1) := by decide +kernel
theorem d_Model_stands_312 : decode og_c_Model_stands 312 = .ok (.iconst 1, 1) := by decide +kernel
theorem d_Model_stands_313 : decode og_c_Model_stands 313 = .ok (.iastore, 1) := by decide +kernel
theorem d_Model_stands_314 : decode og_c_Model_stands 314 = .ok (.aload_n 0, 1) := by decide +kernel
theorem d_Model_stands_315 : decode og_c_Model_stands 315 = .ok (.getfield 124, 3) := by decide +kernel
theorem d_Model_stands_318 : decode og_c_Model_stands 318 = .ok (.bipush 20, 2) := by decide +kernel
theorem d_Model_stands_320 : decode og_c_Model_stands 320 = .ok (.iconst 3, 1) := by decide +kernel
theorem d_Model_stands_321 : decode og_c_Model_stands 321 = .ok (.iload_n 1, 1) := by decide +kernel
theorem d_Model_stands_322 : decode og_c_Model_stands 322 = .ok (.imul, 1) := by decide +kernel
theorem d_Model_stands_323 : decode og_c_Model_stands 323 = .ok (.iadd, 1) := by decide +kernel
theorem d_Model_stands_324 : decode og_c_Model_stands 324 = .ok (.aload_n 0, 1) := by decide +kernel
theorem d_Model_stands_325 : decode og_c_Model_stands 325 = .ok (.getfield 112, 3) := by decide +kernel
theorem d_Model_stands_328 : decode og_c_Model_stands 328 = .ok (.iconst 2, 1) := by decide +kernel
theorem d_Model_stands_329 : decode og_c_Model_stands 329 = .ok (.iload_n 1, 1) := by decide +kernel
theorem d_Model_stands_330 : decode og_c_Model_stands 330 = .ok (.imul, 1) := by decide +kernel
theorem d_Model_stands_331 : decode og_c_Model_stands 331 = .ok (.iaload, 1) := by decide +kernel
theorem d_Model_stands_332 : decode og_c_Model_stands 332 = .ok (.iastore, 1) := by decide +kernel
theorem d_Model_stands_333 : decode og_c_Model_stands 333 = .ok (.aload_n 0, 1) := by decide +kernel
theorem d_Model_stands_334 : decode og_c_Model_stands 334 = .ok (.getfield 124, 3) := by decide +kernel
theorem d_Model_stands_337 : decode og_c_Model_stands 337 = .ok (.bipush 21, 2) := by decide +kernel
theorem d_Model_stands_339 : decode og_c_Model_stands 339 = .ok (.iconst 3, 1) := by decide +kernel
theorem d_Model_stands_340 : decode og_c_Model_stands 340 = .ok (.iload_n 1, 1) := by decide +kernel
theorem d_Model_stands_341 : decode og_c_Model_stands 341 = .ok (.imul, 1) := by decide +kernel
theorem d_Model_stands_342 : decode og_c_Model_stands 342 = .ok (.iadd, 1) := by decide +kernel
theorem d_Model_stands_343 : decode og_c_Model_stands 343 = .ok (.aload_n 0, 1) := by decide +kernel
theorem d_Model_stands_344 : decode og_c_Model_stands 344 = .ok (.getfield 112, 3) := by decide +kernel
theorem d_Model_stands_347 : decode og_c_Model_stands 347 = .ok (.iconst 2, 1) := by decide +kernel
theorem d_Model_stands_348 : decode og_c_Model_stands 348 = .ok (.iload_n 1, 1) := by decide +kernel
theorem d_Model_stands_349 : decode og_c_Model_stands 349 = .ok (.imul, 1) := by decide +kernel
theorem d_Model_stands_350 : decode og_c_Model_stands 350 = .ok (.iconst 1, 1) := by decide +kernel
theorem d_Model_stands_351 : decode og_c_Model_stands 351 = .ok (.iadd, 1) := by decide +kernel
theorem d_Model_stands_352 : decode og_c_Model_stands 352 = .ok (.iaload, 1) := by decide +kernel
theorem d_Model_stands_353 : decode og_c_Model_stands 353 = .ok (.iastore, 1) := by decide +kernel
theorem d_Model_stands_354 : decode og_c_Model_stands 354 = .ok (.iinc 1 1, 3) := by decide +kernel
theorem d_Model_stands_357 : decode og_c_Model_stands 357 = .ok (.goto (-65), 3) := by decide +kernel
theorem d_Model_stands_360 : decode og_c_Model_stands 360 = .ok (.aload_n 0, 1) := by decide +kernel
theorem d_Model_stands_361 : decode og_c_Model_stands 361 = .ok (.iconst 0, 1) := by decide +kernel
theorem d_Model_stands_362 : decode og_c_Model_stands 362 = .ok (.putfield 372, 3) := by decide +kernel
theorem d_Model_stands_365 : decode og_c_Model_stands 365 = .ok (.aload_n 0, 1) := by decide +kernel
theorem d_Model_stands_366 : decode og_c_Model_stands 366 = .ok (.iconst 0, 1) := by decide +kernel
theorem d_Model_stands_367 : decode og_c_Model_stands 367 = .ok (.putfield 375, 3) := by decide +kernel
theorem d_Model_stands_370 : decode og_c_Model_stands 370 = .ok (.return_, 1) := by decide +kernel
def m_Model_stands : og_Dn := og_den [17] 2 2 (og_cut (og_seq (og_set 1 (og_k 0)) (og_while (og_cc og_rlt (og_loc 1) (og_k 2)) (og_ast 4 (og_fix (fun _ => 1028) (og_loc 0)) (og_add (og_k 2) (og_loc 1)) (og_ald 4 (og_fix (fun _ => 1028) (og_loc 0)) (og_loc 1))) (og_inc 1 1))) (og_cut (og_seq (og_set 1 (og_k 0)) (og_while (og_cc og_rlt (og_loc 1) (og_k 5)) (og_seq (og_ast 10 (og_fix (fun _ => 1034) (og_loc 0)) (og_add (og_k 5) (og_loc 1)) (og_ald 10 (og_fix (fun _ => 1034) (og_loc 0)) (og_loc 1))) (og_ast 10 (og_fix (fun _ => 1035) (og_loc 0)) (og_add (og_k 5) (og_loc 1)) (og_ald 10 (og_fix (fun _ => 1035) (og_loc 0)) (og_loc 1)))) (og_inc 1 1))) (og_cut (og_seq (og_set 1 (og_k 0)) (og_while (og_cc og_rlt (og_loc 1) (og_k 16)) (og_ast 32 (og_fix (fun _ => 1029) (og_loc 0)) (og_add (og_k 16) (og_loc 1)) (og_ald 32 (og_fix (fun _ => 1029) (og_loc 0)) (og_loc 1))) (og_inc 1 1))) (og_cut (og_seq (og_set 1 (og_k 0)) (og_while (og_cc og_rlt (og_loc 1) (og_k 6)) (og_ast 12 (og_fix (fun _ => 1030) (og_loc 0)) (og_add (og_k 6) (og_loc 1)) (og_ald 12 (og_fix (fun _ => 1030) (og_loc 0)) (og_loc 1))) (og_inc 1 1))) (og_cut (og_seq (og_set 1 (og_k 0)) (og_while (og_cc og_rlt (og_loc 1) (og_k 8)) (og_ast 16 (og_fix (fun _ => 1031) (og_loc 0)) (og_add (og_k 8) (og_loc 1)) (og_ald 16 (og_fix (fun _ => 1031) (og_loc 0)) (og_loc 1))) (og_inc 1 1))) (og_cut (og_seq (og_set 1 (og_k 0)) (og_while (og_cc og_rlt (og_loc 1) (og_get 46 (og_loc 0))) (og_ast 3200 (og_fix (fun _ => 1036) (og_loc 0)) (og_add (og_k 1600) (og_loc 1)) (og_ald 3200 (og_fix (fun _ => 1036) (og_loc 0)) (og_loc 1))) (og_inc 1 1))) (og_cut (og_seq (og_set 1 (og_k 0)) (og_while (og_cc og_rlt (og_loc 1) (og_k 204)) (og_ast 204 (og_fix (fun _ => 1037) (og_loc 0)) (og_loc 1) (og_k 0)) (og_inc 1 1))) (og_cut (og_seq (og_set 1 (og_k 0)) (og_while (og_cc og_rlt (og_loc 1) (og_k 6)) (og_ast 204 (og_fix (fun _ => 1037) (og_loc 0)) (og_add (og_k 3) (og_mul (og_k 3) (og_loc 1))) (og_k (-1))) (og_inc 1 1))) (og_cut (og_seq (og_set 1 (og_k 0)) (og_while (og_cc og_rlt (og_loc 1) (og_ald 4 (og_fix (fun _ => 1028) (og_loc 0)) (og_k 0))) (og_seq (og_ast 204 (og_fix (fun _ => 1037) (og_loc 0)) (og_add (og_k 1) (og_mul (og_k 3) (og_loc 1))) (og_ald 12 (og_fix (fun _ => 1032) (og_loc 0)) (og_mul (og_k 2) (og_loc 1)))) (og_ast 204 (og_fix (fun _ => 1037) (og_loc 0)) (og_add (og_k 2) (og_mul (og_k 3) (og_loc 1))) (og_ald 12 (og_fix (fun _ => 1032) (og_loc 0)) (og_add (og_mul (og_k 2) (og_loc 1)) (og_k 1))))) (og_inc 1 1))) (og_cut (og_seq (og_set 1 (og_k 0)) (og_while (og_cc og_rlt (og_loc 1) (og_ald 4 (og_fix (fun _ => 1028) (og_loc 0)) (og_k 1))) (og_seq (og_ast 204 (og_fix (fun _ => 1037) (og_loc 0)) (og_add (og_k 19) (og_mul (og_k 3) (og_loc 1))) (og_k 1)) (og_seq (og_ast 204 (og_fix (fun _ => 1037) (og_loc 0)) (og_add (og_k 20) (og_mul (og_k 3) (og_loc 1))) (og_ald 16 (og_fix (fun _ => 1033) (og_loc 0)) (og_mul (og_k 2) (og_loc 1)))) (og_ast 204 (og_fix (fun _ => 1037) (og_loc 0)) (og_add (og_k 21) (og_mul (og_k 3) (og_loc 1))) (og_ald 16 (og_fix (fun _ => 1033) (og_loc 0)) (og_add (og_mul (og_k 2) (og_loc 1)) (og_k 1)))))) (og_inc 1 1))) (og_seq (og_putf 65 (og_loc 0) (og_k 0)) (og_putf 61 (og_loc 0) (og_k 0)))))))))))))
set_option maxRecDepth 20000 in
theorem ok_Model_stands : og_MOK og_y_Model_stands og_c_Model_stands 2 2 1 [17] m_Model_stands := og_method (b := 370) (lt' := [(0, 17)]) (by decide +kernel) (by decide) (by decide) (og_scut (og_sdrop (lt' := [(0, 17), (1, 0)]) (lt2 := [(0, 17)]) (og_sseq (og_istore_n (i := 1) (lt' := [(0, 17), (1, 0)]) (og_iconst (by decide) d_Model_stands_0) (by rfl) (by decide) (by decide) d_Model_stands_1) (og_swhile (T := 7) (F := 27) (cp0 := 21) (og_ccn og_n_lt (og_ige (tgt := 27) (og_iload_n (i := 1) (j := 1) (by rfl) (by rfl) d_Model_stands_2) (og_iconst (by decide) d_Model_stands_3) d_Model_stands_4 (by decide))) (og_iastore (N := 4) (og_f_Model_many (og_aload_n (i := 0) (t := 15) (j := 0) (by rfl) (by rfl) d_Model_stands_7) og_w1180 d_Model_stands_8) (by rfl) (og_iadd (og_iconst (by decide) d_Model_stands_11) (og_iload_n (i := 1) (j := 1) (by rfl) (by rfl) d_Model_stands_12) d_Model_stands_13) (og_iald (N := 4) (og_f_Model_many (og_aload_n (i := 0) (t := 15) (j := 0) (by rfl) (by rfl) d_Model_stands_14) og_w1180 d_Model_stands_15) (by rfl) (og_iload_n (i := 1) (j := 1) (by rfl) (by rfl) d_Model_stands_18) d_Model_stands_19) d_Model_stands_20) (og_gS (b' := 2) (og_iinc (j := 1) (lt' := [(0, 17), (1, 0)]) (by rfl) (by decide) (by decide) d_Model_stands_21) d_Model_stands_24 (by decide)))) (by decide)) (og_scut (og_sdrop (lt' := [(0, 17), (1, 0)]) (lt2 := [(0, 17)]) (og_sseq (og_istore_n (i := 1) (lt' := [(0, 17), (1, 0)]) (og_iconst (by decide) d_Model_stands_27) (by rfl) (by decide) (by decide) d_Model_stands_28) (og_swhile (T := 34) (F := 68) (cp0 := 62) (og_ccn og_n_lt (og_ige (tgt := 68) (og_iload_n (i := 1) (j := 1) (by rfl) (by rfl) d_Model_stands_29) (og_iconst (by decide) d_Model_stands_30) d_Model_stands_31 (by decide))) (og_sseq (og_iastore (N := 10) (og_f_Model_codeFrom (og_aload_n (i := 0) (t := 15) (j := 0) (by rfl) (by rfl) d_Model_stands_34) og_w1186 d_Model_stands_35) (by rfl) (og_iadd (og_iconst (by decide) d_Model_stands_38) (og_iload_n (i := 1) (j := 1) (by rfl) (by rfl) d_Model_stands_39) d_Model_stands_40) (og_iald (N := 10) (og_f_Model_codeFrom (og_aload_n (i := 0) (t := 15) (j := 0) (by rfl) (by rfl) d_Model_stands_41) og_w1186 d_Model_stands_42) (by rfl) (og_iload_n (i := 1) (j := 1) (by rfl) (by rfl) d_Model_stands_45) d_Model_stands_46) d_Model_stands_47) (og_iastore (N := 10) (og_f_Model_codeEnd (og_aload_n (i := 0) (t := 15) (j := 0) (by rfl) (by rfl) d_Model_stands_48) og_w1187 d_Model_stands_49) (by rfl) (og_iadd (og_iconst (by decide) d_Model_stands_52) (og_iload_n (i := 1) (j := 1) (by rfl) (by rfl) d_Model_stands_53) d_Model_stands_54) (og_iald (N := 10) (og_f_Model_codeEnd (og_aload_n (i := 0) (t := 15) (j := 0) (by rfl) (by rfl) d_Model_stands_55) og_w1187 d_Model_stands_56) (by rfl) (og_iload_n (i := 1) (j := 1) (by rfl) (by rfl) d_Model_stands_59) d_Model_stands_60) d_Model_stands_61)) (og_gS (b' := 29) (og_iinc (j := 1) (lt' := [(0, 17), (1, 0)]) (by rfl) (by decide) (by decide) d_Model_stands_62) d_Model_stands_65 (by decide)))) (by decide)) (og_scut (og_sdrop (lt' := [(0, 17), (1, 0)]) (lt2 := [(0, 17)]) (og_sseq (og_istore_n (i := 1) (lt' := [(0, 17), (1, 0)]) (og_iconst (by decide) d_Model_stands_68) (by rfl) (by decide) (by decide) d_Model_stands_69) (og_swhile (T := 76) (F := 97) (cp0 := 91) (og_ccn og_n_lt (og_ige (tgt := 97) (og_iload_n (i := 1) (j := 1) (by rfl) (by rfl) d_Model_stands_70) (og_bipush (by decide) d_Model_stands_71) d_Model_stands_73 (by decide))) (og_lastore (N := 32) (og_f_Model_names (og_aload_n (i := 0) (t := 15) (j := 0) (by rfl) (by rfl) d_Model_stands_76) og_w1181 d_Model_stands_77) (by rfl) (og_iadd (og_bipush (by decide) d_Model_stands_80) (og_iload_n (i := 1) (j := 1) (by rfl) (by rfl) d_Model_stands_82) d_Model_stands_83) (og_lald (N := 32) (og_f_Model_names (og_aload_n (i := 0) (t := 15) (j := 0) (by rfl) (by rfl) d_Model_stands_84) og_w1181 d_Model_stands_85) (by rfl) (og_iload_n (i := 1) (j := 1) (by rfl) (by rfl) d_Model_stands_88) d_Model_stands_89) d_Model_stands_90) (og_gS (b' := 70) (og_iinc (j := 1) (lt' := [(0, 17), (1, 0)]) (by rfl) (by decide) (by decide) d_Model_stands_91) d_Model_stands_94 (by decide)))) (by decide)) (og_scut (og_sdrop (lt' := [(0, 17), (1, 0)]) (lt2 := [(0, 17)]) (og_sseq (og_istore_n (i := 1) (lt' := [(0, 17), (1, 0)]) (og_iconst (by decide) d_Model_stands_97) (by rfl) (by decide) (by decide) d_Model_stands_98) (og_swhile (T := 105) (F := 126) (cp0 := 120) (og_ccn og_n_lt (og_ige (tgt := 126) (og_iload_n (i := 1) (j := 1) (by rfl) (by rfl) d_Model_stands_99) (og_bipush (by decide) d_Model_stands_100) d_Model_stands_102 (by decide))) (og_iastore (N := 12) (og_f_Model_longs (og_aload_n (i := 0) (t := 15) (j := 0) (by rfl) (by rfl) d_Model_stands_105) og_w1182 d_Model_stands_106) (by rfl) (og_iadd (og_bipush (by decide) d_Model_stands_109) (og_iload_n (i := 1) (j := 1) (by rfl) (by rfl) d_Model_stands_111) d_Model_stands_112) (og_iald (N := 12) (og_f_Model_longs (og_aload_n (i := 0) (t := 15) (j := 0) (by rfl) (by rfl) d_Model_stands_113) og_w1182 d_Model_stands_114) (by rfl) (og_iload_n (i := 1) (j := 1) (by rfl) (by rfl) d_Model_stands_117) d_Model_stands_118) d_Model_stands_119) (og_gS (b' := 99) (og_iinc (j := 1) (lt' := [(0, 17), (1, 0)]) (by rfl) (by decide) (by decide) d_Model_stands_120) d_Model_stands_123 (by decide)))) (by decide)) (og_scut (og_sdrop (lt' := [(0, 17), (1, 0)]) (lt2 := [(0, 17)]) (og_sseq (og_istore_n (i := 1) (lt' := [(0, 17), (1, 0)]) (og_iconst (by decide) d_Model_stands_126) (by rfl) (by decide) (by decide) d_Model_stands_127) (og_swhile (T := 134) (F := 155) (cp0 := 149) (og_ccn og_n_lt (og_ige (tgt := 155) (og_iload_n (i := 1) (j := 1) (by rfl) (by rfl) d_Model_stands_128) (og_bipush (by decide) d_Model_stands_129) d_Model_stands_131 (by decide))) (og_iastore (N := 16) (og_f_Model_talls (og_aload_n (i := 0) (t := 15) (j := 0) (by rfl) (by rfl) d_Model_stands_134) og_w1183 d_Model_stands_135) (by rfl) (og_iadd (og_bipush (by decide) d_Model_stands_138) (og_iload_n (i := 1) (j := 1) (by rfl) (by rfl) d_Model_stands_140) d_Model_stands_141) (og_iald (N := 16) (og_f_Model_talls (og_aload_n (i := 0) (t := 15) (j := 0) (by rfl) (by rfl) d_Model_stands_142) og_w1183 d_Model_stands_143) (by rfl) (og_iload_n (i := 1) (j := 1) (by rfl) (by rfl) d_Model_stands_146) d_Model_stands_147) d_Model_stands_148) (og_gS (b' := 128) (og_iinc (j := 1) (lt' := [(0, 17), (1, 0)]) (by rfl) (by decide) (by decide) d_Model_stands_149) d_Model_stands_152 (by decide)))) (by decide)) (og_scut (og_sdrop (lt' := [(0, 17), (1, 0)]) (lt2 := [(0, 17)]) (og_sseq (og_istore_n (i := 1) (lt' := [(0, 17), (1, 0)]) (og_iconst (by decide) d_Model_stands_155) (by rfl) (by decide) (by decide) d_Model_stands_156) (og_swhile (T := 165) (F := 187) (cp0 := 181) (og_ccn og_n_lt (og_ige (tgt := 187) (og_iload_n (i := 1) (j := 1) (by rfl) (by rfl) d_Model_stands_157) (og_f_Model_coded (og_aload_n (i := 0) (t := 15) (j := 0) (by rfl) (by rfl) d_Model_stands_158) og_w1189 d_Model_stands_159) d_Model_stands_162 (by decide))) (og_iastore (N := 3200) (og_f_Model_codes (og_aload_n (i := 0) (t := 15) (j := 0) (by rfl) (by rfl) d_Model_stands_165) og_w1188 d_Model_stands_166) (by rfl) (og_iadd (og_sipush (by decide) d_Model_stands_169) (og_iload_n (i := 1) (j := 1) (by rfl) (by rfl) d_Model_stands_172) d_Model_stands_173) (og_iald (N := 3200) (og_f_Model_codes (og_aload_n (i := 0) (t := 15) (j := 0) (by rfl) (by rfl) d_Model_stands_174) og_w1188 d_Model_stands_175) (by rfl) (og_iload_n (i := 1) (j := 1) (by rfl) (by rfl) d_Model_stands_178) d_Model_stands_179) d_Model_stands_180) (og_gS (b' := 157) (og_iinc (j := 1) (lt' := [(0, 17), (1, 0)]) (by rfl) (by decide) (by decide) d_Model_stands_181) d_Model_stands_184 (by decide)))) (by decide)) (og_scut (og_sdrop (lt' := [(0, 17), (1, 0)]) (lt2 := [(0, 17)]) (og_sseq (og_istore_n (i := 1) (lt' := [(0, 17), (1, 0)]) (og_iconst (by decide) d_Model_stands_187) (by rfl) (by decide) (by decide) d_Model_stands_188) (og_swhile (T := 196) (F := 209) (cp0 := 203) (og_ccn og_n_lt (og_ige (tgt := 209) (og_iload_n (i := 1) (j := 1) (by rfl) (by rfl) d_Model_stands_189) (og_sipush (by decide) d_Model_stands_190) d_Model_stands_193 (by decide))) (og_iastore (N := 204) (og_f_Model_now (og_aload_n (i := 0) (t := 15) (j := 0) (by rfl) (by rfl) d_Model_stands_196) og_w1192 d_Model_stands_197) (by rfl) (og_iload_n (i := 1) (j := 1) (by rfl) (by rfl) d_Model_stands_200) (og_iconst (by decide) d_Model_stands_201) d_Model_stands_202) (og_gS (b' := 189) (og_iinc (j := 1) (lt' := [(0, 17), (1, 0)]) (by rfl) (by decide) (by decide) d_Model_stands_203) d_Model_stands_206 (by decide)))) (by decide)) (og_scut (og_sdrop (lt' := [(0, 17), (1, 0)]) (lt2 := [(0, 17)]) (og_sseq (og_istore_n (i := 1) (lt' := [(0, 17), (1, 0)]) (og_iconst (by decide) d_Model_stands_209) (by rfl) (by decide) (by decide) d_Model_stands_210) (og_swhile (T := 217) (F := 234) (cp0 := 228) (og_ccn og_n_lt (og_ige (tgt := 234) (og_iload_n (i := 1) (j := 1) (by rfl) (by rfl) d_Model_stands_211) (og_bipush (by decide) d_Model_stands_212) d_Model_stands_214 (by decide))) (og_iastore (N := 204) (og_f_Model_now (og_aload_n (i := 0) (t := 15) (j := 0) (by rfl) (by rfl) d_Model_stands_217) og_w1192 d_Model_stands_218) (by rfl) (og_iadd (og_iconst (by decide) d_Model_stands_221) (og_imul (og_iconst (by decide) d_Model_stands_222) (og_iload_n (i := 1) (j := 1) (by rfl) (by rfl) d_Model_stands_223) d_Model_stands_224) d_Model_stands_225) (og_iconst (by decide) d_Model_stands_226) d_Model_stands_227) (og_gS (b' := 211) (og_iinc (j := 1) (lt' := [(0, 17), (1, 0)]) (by rfl) (by decide) (by decide) d_Model_stands_228) d_Model_stands_231 (by decide)))) (by decide)) (og_scut (og_sdrop (lt' := [(0, 17), (1, 0)]) (lt2 := [(0, 17)]) (og_sseq (og_istore_n (i := 1) (lt' := [(0, 17), (1, 0)]) (og_iconst (by decide) d_Model_stands_234) (by rfl) (by decide) (by decide) d_Model_stands_235) (og_swhile (T := 246) (F := 290) (cp0 := 284) (og_ccn og_n_lt (og_ige (tgt := 290) (og_iload_n (i := 1) (j := 1) (by rfl) (by rfl) d_Model_stands_236) (og_iald (N := 4) (og_f_Model_many (og_aload_n (i := 0) (t := 15) (j := 0) (by rfl) (by rfl) d_Model_stands_237) og_w1180 d_Model_stands_238) (by rfl) (og_iconst (by decide) d_Model_stands_241) d_Model_stands_242) d_Model_stands_243 (by decide))) (og_sseq (og_iastore (N := 204) (og_f_Model_now (og_aload_n (i := 0) (t := 15) (j := 0) (by rfl) (by rfl) d_Model_stands_246) og_w1192 d_Model_stands_247) (by rfl) (og_iadd (og_iconst (by decide) d_Model_stands_250) (og_imul (og_iconst (by decide) d_Model_stands_251) (og_iload_n (i := 1) (j := 1) (by rfl) (by rfl) d_Model_stands_252) d_Model_stands_253) d_Model_stands_254) (og_iald (N := 12) (og_f_Model_graves0 (og_aload_n (i := 0) (t := 15) (j := 0) (by rfl) (by rfl) d_Model_stands_255) og_w1184 d_Model_stands_256) (by rfl) (og_imul (og_iconst (by decide) d_Model_stands_259) (og_iload_n (i := 1) (j := 1) (by rfl) (by rfl) d_Model_stands_260) d_Model_stands_261) d_Model_stands_262) d_Model_stands_263) (og_iastore (N := 204) (og_f_Model_now (og_aload_n (i := 0) (t := 15) (j := 0) (by rfl) (by rfl) d_Model_stands_264) og_w1192 d_Model_stands_265) (by rfl) (og_iadd (og_iconst (by decide) d_Model_stands_268) (og_imul (og_iconst (by decide) d_Model_stands_269) (og_iload_n (i := 1) (j := 1) (by rfl) (by rfl) d_Model_stands_270) d_Model_stands_271) d_Model_stands_272) (og_iald (N := 12) (og_f_Model_graves0 (og_aload_n (i := 0) (t := 15) (j := 0) (by rfl) (by rfl) d_Model_stands_273) og_w1184 d_Model_stands_274) (by rfl) (og_iadd (og_imul (og_iconst (by decide) d_Model_stands_277) (og_iload_n (i := 1) (j := 1) (by rfl) (by rfl) d_Model_stands_278) d_Model_stands_279) (og_iconst (by decide) d_Model_stands_280) d_Model_stands_281) d_Model_stands_282) d_Model_stands_283)) (og_gS (b' := 236) (og_iinc (j := 1) (lt' := [(0, 17), (1, 0)]) (by rfl) (by decide) (by decide) d_Model_stands_284) d_Model_stands_287 (by decide)))) (by decide)) (og_scut (og_sdrop (lt' := [(0, 17), (1, 0)]) (lt2 := [(0, 17)]) (og_sseq (og_istore_n (i := 1) (lt' := [(0, 17), (1, 0)]) (og_iconst (by decide) d_Model_stands_290) (by rfl) (by decide) (by decide) d_Model_stands_291) (og_swhile (T := 302) (F := 360) (cp0 := 354) (og_ccn og_n_lt (og_ige (tgt := 360) (og_iload_n (i := 1) (j := 1) (by rfl) (by rfl) d_Model_stands_292) (og_iald (N := 4) (og_f_Model_many (og_aload_n (i := 0) (t := 15) (j := 0) (by rfl) (by rfl) d_Model_stands_293) og_w1180 d_Model_stands_294) (by rfl) (og_iconst (by decide) d_Model_stands_297) d_Model_stands_298) d_Model_stands_299 (by decide))) (og_sseq (og_iastore (N := 204) (og_f_Model_now (og_aload_n (i := 0) (t := 15) (j := 0) (by rfl) (by rfl) d_Model_stands_302) og_w1192 d_Model_stands_303) (by rfl) (og_iadd (og_bipush (by decide) d_Model_stands_306) (og_imul (og_iconst (by decide) d_Model_stands_308) (og_iload_n (i := 1) (j := 1) (by rfl) (by rfl) d_Model_stands_309) d_Model_stands_310) d_Model_stands_311) (og_iconst (by decide) d_Model_stands_312) d_Model_stands_313) (og_sseq (og_iastore (N := 204) (og_f_Model_now (og_aload_n (i := 0) (t := 15) (j := 0) (by rfl) (by rfl) d_Model_stands_314) og_w1192 d_Model_stands_315) (by rfl) (og_iadd (og_bipush (by decide) d_Model_stands_318) (og_imul (og_iconst (by decide) d_Model_stands_320) (og_iload_n (i := 1) (j := 1) (by rfl) (by rfl) d_Model_stands_321) d_Model_stands_322) d_Model_stands_323) (og_iald (N := 16) (og_f_Model_people0 (og_aload_n (i := 0) (t := 15) (j := 0) (by rfl) (by rfl) d_Model_stands_324) og_w1185 d_Model_stands_325) (by rfl) (og_imul (og_iconst (by decide) d_Model_stands_328) (og_iload_n (i := 1) (j := 1) (by rfl) (by rfl) d_Model_stands_329) d_Model_stands_330) d_Model_stands_331) d_Model_stands_332) (og_iastore (N := 204) (og_f_Model_now (og_aload_n (i := 0) (t := 15) (j := 0) (by rfl) (by rfl) d_Model_stands_333) og_w1192 d_Model_stands_334) (by rfl) (og_iadd (og_bipush (by decide) d_Model_stands_337) (og_imul (og_iconst (by decide) d_Model_stands_339) (og_iload_n (i := 1) (j := 1) (by rfl) (by rfl) d_Model_stands_340) d_Model_stands_341) d_Model_stands_342) (og_iald (N := 16) (og_f_Model_people0 (og_aload_n (i := 0) (t := 15) (j := 0) (by rfl) (by rfl) d_Model_stands_343) og_w1185 d_Model_stands_344) (by rfl) (og_iadd (og_imul (og_iconst (by decide) d_Model_stands_347) (og_iload_n (i := 1) (j := 1) (by rfl) (by rfl) d_Model_stands_348) d_Model_stands_349) (og_iconst (by decide) d_Model_stands_350) d_Model_stands_351) d_Model_stands_352) d_Model_stands_353))) (og_gS (b' := 292) (og_iinc (j := 1) (lt' := [(0, 17), (1, 0)]) (by rfl) (by decide) (by decide) d_Model_stands_354) d_Model_stands_357 (by decide)))) (by decide)) (og_sseq (og_p_Model_undoable (og_aload_n (i := 0) (t := 15) (j := 0) (by rfl) (by rfl) d_Model_stands_360) (og_iconst (by decide) d_Model_stands_361) og_w1208 d_Model_stands_362) (og_p_Model_rowMany (og_aload_n (i := 0) (t := 15) (j := 0) (by rfl) (by rfl) d_Model_stands_365) (og_iconst (by decide) d_Model_stands_366) og_w1204 d_Model_stands_367)))))))))))) (fun _ => d_Model_stands_370)
abbrev og_c_Model_parish : ByteArray := prog_14_method_26_code
abbrev og_y_Model_parish : MethodName := ⟨"OpenGravesModel", "parish", "()I"⟩
theorem v_Model_parish {own : String} {idx dep : Nat} (h : 12 + 1 ≤ dep) : og_sV own idx og_y_Model_parish og_c_Model_parish 2 0 12 dep 13 0 := ⟨⟨12, og_sl_Model, og_T_Model, 102, rfl, by decide, rfl⟩, og_w1461, og_w1462, og_w17, og_w1463, ⟨by decide +kernel, by decide +kernel, by decide +kernel⟩, h, by decide⟩
theorem d_Model_parish_0 : decode og_c_Model_parish 0 = .ok (.aload_n 0, 1) := by decide +kernel
theorem d_Model_parish_1 : decode og_c_Model_parish 1 = .ok (.aload_n 0, 1) := by decide +kernel
theorem d_Model_parish_2 : decode og_c_Model_parish 2 = .ok (.getfield 239, 3) := by decide +kernel
theorem d_Model_parish_5 : decode og_c_Model_parish 5 = .ok (.putfield 251, 3) := by decide +kernel
theorem d_Model_parish_8 : decode og_c_Model_parish 8 = .ok (.aload_n 0, 1) := by decide +kernel
theorem d_Model_parish_9 : decode og_c_Model_parish 9 = .ok (.iconst 0, 1) := by decide +kernel
theorem d_Model_parish_10 : decode og_c_Model_parish 10 = .ok (.putfield 239, 3) := by decide +kernel
theorem d_Model_parish_13 : decode og_c_Model_parish 13 = .ok (.aload_n 0, 1) := by decide +kernel
theorem d_Model_parish_14 : decode og_c_Model_parish 14 = .ok (.iconst 0, 1) := by decide +kernel
theorem d_Model_parish_15 : decode og_c_Model_parish 15 = .ok (.putfield 248, 3) := by decide +kernel
theorem d_Model_parish_18 : decode og_c_Model_parish 18 = .ok (.aload_n 0, 1) := by decide +kernel
theorem d_Model_parish_19 : decode og_c_Model_parish 19 = .ok (.iconst (-1), 1) := by decide +kernel
theorem d_Model_parish_20 : decode og_c_Model_parish 20 = .ok (.putfield 262, 3) := by decide +kernel
theorem d_Model_parish_23 : decode og_c_Model_parish 23 = .ok (.aload_n 0, 1) := by decide +kernel
theorem d_Model_parish_24 : decode og_c_Model_parish 24 = .ok (.iconst 0, 1) := by decide +kernel
theorem d_Model_parish_25 : decode og_c_Model_parish 25 = .ok (.putfield 242, 3) := by decide +kernel
theorem d_Model_parish_28 : decode og_c_Model_parish 28 = .ok (.aload_n 0, 1) := by decide +kernel
theorem d_Model_parish_29 : decode og_c_Model_parish 29 = .ok (.iconst (-1), 1) := by decide +kernel
theorem d_Model_parish_30 : decode og_c_Model_parish 30 = .ok (.putfield 245, 3) := by decide +kernel
theorem d_Model_parish_33 : decode og_c_Model_parish 33 = .ok (.aload_n 0, 1) := by decide +kernel
theorem d_Model_parish_34 : decode og_c_Model_parish 34 = .ok (.iconst 0, 1) := by decide +kernel
theorem d_Model_parish_35 : decode og_c_Model_parish 35 = .ok (.putfield 344, 3) := by decide +kernel
theorem d_Model_parish_38 : decode og_c_Model_parish 38 = .ok (.aload_n 0, 1) := by decide +kernel
theorem d_Model_parish_39 : decode og_c_Model_parish 39 = .ok (.getfield 96, 3) := by decide +kernel
theorem d_Model_parish_42 : decode og_c_Model_parish 42 = .ok (.iconst 0, 1) := by decide +kernel
theorem d_Model_parish_43 : decode og_c_Model_parish 43 = .ok (.iconst 0, 1) := by decide +kernel
theorem d_Model_parish_44 : decode og_c_Model_parish 44 = .ok (.iastore, 1) := by decide +kernel
theorem d_Model_parish_45 : decode og_c_Model_parish 45 = .ok (.aload_n 0, 1) := by decide +kernel
theorem d_Model_parish_46 : decode og_c_Model_parish 46 = .ok (.getfield 96, 3) := by decide +kernel
theorem d_Model_parish_49 : decode og_c_Model_parish 49 = .ok (.iconst 1, 1) := by decide +kernel
theorem d_Model_parish_50 : decode og_c_Model_parish 50 = .ok (.iconst 0, 1) := by decide +kernel
theorem d_Model_parish_51 : decode og_c_Model_parish 51 = .ok (.iastore, 1) := by decide +kernel
theorem d_Model_parish_52 : decode og_c_Model_parish 52 = .ok (.iconst 0, 1) := by decide +kernel
theorem d_Model_parish_53 : decode og_c_Model_parish 53 = .ok (.istore_n 1, 1) := by decide +kernel
theorem d_Model_parish_54 : decode og_c_Model_parish 54 = .ok (.iload_n 1, 1) := by decide +kernel
theorem d_Model_parish_55 : decode og_c_Model_parish 55 = .ok (.iconst 5, 1) := by decide +kernel
theorem d_Model_parish_56 : decode og_c_Model_parish 56 = .ok (.if_icmp .ge 16, 3) := by decide +kernel
theorem d_Model_parish_59 : decode og_c_Model_parish 59 = .ok (.aload_n 0, 1) := by decide +kernel
theorem d_Model_parish_60 : decode og_c_Model_parish 60 = .ok (.getfield 115, 3) := by decide +kernel
theorem d_Model_parish_63 : decode og_c_Model_parish 63 = .ok (.iload_n 1, 1) := by decide +kernel
theorem d_Model_parish_64 : decode og_c_Model_parish 64 = .ok (.iconst (-1), 1) := by decide +kernel
theorem d_Model_parish_65 : decode og_c_Model_parish 65 = .ok (.iastore, 1) := by decide +kernel
theorem d_Model_parish_66 : decode og_c_Model_parish 66 = .ok (.iinc 1 1, 3) := by decide +kernel
theorem d_Model_parish_69 : decode og_c_Model_parish 69 = .ok (.goto (-15), 3) := by decide +kernel
theorem d_Model_parish_72 : decode og_c_Model_parish 72 = .ok (.aload_n 0, 1) := by decide +kernel
theorem d_Model_parish_73 : decode og_c_Model_parish 73 = .ok (.iconst 0, 1) := by decide +kernel
theorem d_Model_parish_74 : decode og_c_Model_parish 74 = .ok (.putfield 360, 3) := by decide +kernel
theorem d_Model_parish_77 : decode og_c_Model_parish 77 = .ok (.aload_n 0, 1) := by decide +kernel
theorem d_Model_parish_78 : decode og_c_Model_parish 78 = .ok (.getfield 242, 3) := by decide +kernel
theorem d_Model_parish_81 : decode og_c_Model_parish 81 = .ok (.ifCond .ne 18, 3) := by decide +kernel
theorem d_Model_parish_84 : decode og_c_Model_parish 84 = .ok (.aload_n 0, 1) := by decide +kernel
theorem d_Model_parish_85 : decode og_c_Model_parish 85 = .ok (.invokevirtual 254, 3) := by decide +kernel
theorem d_Model_parish_88 : decode og_c_Model_parish 88 = .ok (.iconst (-1), 1) := by decide +kernel
theorem d_Model_parish_89 : decode og_c_Model_parish 89 = .ok (.if_icmp .eq 10, 3) := by decide +kernel
theorem d_Model_parish_92 : decode og_c_Model_parish 92 = .ok (.aload_n 0, 1) := by decide +kernel
theorem d_Model_parish_93 : decode og_c_Model_parish 93 = .ok (.invokevirtual 363, 3) := by decide +kernel
theorem d_Model_parish_96 : decode og_c_Model_parish 96 = .ok (.goto (-19), 3) := by decide +kernel
theorem d_Model_parish_99 : decode og_c_Model_parish 99 = .ok (.aload_n 0, 1) := by decide +kernel
theorem d_Model_parish_100 : decode og_c_Model_parish 100 = .ok (.aload_n 0, 1) := by decide +kernel
theorem d_Model_parish_101 : decode og_c_Model_parish 101 = .ok (.getfield 242, 3) := by decide +kernel
theorem d_Model_parish_104 : decode og_c_Model_parish 104 = .ok (.putfield 366, 3) := by decide +kernel
theorem d_Model_parish_107 : decode og_c_Model_parish 107 = .ok (.aload_n 0, 1) := by decide +kernel
theorem d_Model_parish_108 : decode og_c_Model_parish 108 = .ok (.aload_n 0, 1) := by decide +kernel
theorem d_Model_parish_109 : decode og_c_Model_parish 109 = .ok (.getfield 245, 3) := by decide +kernel
theorem d_Model_parish_112 : decode og_c_Model_parish 112 = .ok (.putfield 13, 3) := by decide +kernel
theorem d_Model_parish_115 : decode og_c_Model_parish 115 = .ok (.aload_n 0, 1) := by decide +kernel
theorem d_Model_parish_116 : decode og_c_Model_parish 116 = .ok (.getfield 242, 3) := by decide +kernel
theorem d_Model_parish_119 : decode og_c_Model_parish 119 = .ok (.ifCond .eq 15, 3) := by decide +kernel
theorem d_Model_parish_122 : decode og_c_Model_parish 122 = .ok (.aload_n 0, 1) := by decide +kernel
theorem d_Model_parish_123 : decode og_c_Model_parish 123 = .ok (.getfield 17, 3) := by decide +kernel
theorem d_Model_parish_126 : decode og_c_Model_parish 126 = .ok (.iconst 1, 1) := by decide +kernel
theorem d_Model_parish_127 : decode og_c_Model_parish 127 = .ok (.dup2, 1) := by decide +kernel
theorem d_Model_parish_128 : decode og_c_Model_parish 128 = .ok (.iaload, 1) := by decide +kernel
theorem d_Model_parish_129 : decode og_c_Model_parish 129 = .ok (.iconst 1, 1) := by decide +kernel
theorem d_Model_parish_130 : decode og_c_Model_parish 130 = .ok (.iadd, 1) := by decide +kernel
theorem d_Model_parish_131 : decode og_c_Model_parish 131 = .ok (.iastore, 1) := by decide +kernel
theorem d_Model_parish_132 : decode og_c_Model_parish 132 = .ok (.iconst (-1), 1) := by decide +kernel
theorem d_Model_parish_133 : decode og_c_Model_parish 133 = .ok (.ireturn, 1) := by decide +kernel
theorem d_Model_parish_134 : decode og_c_Model_parish 134 = .ok (.aload_n 0, 1) := by decide +kernel
theorem d_Model_parish_135 : decode og_c_Model_parish 135 = .ok (.invokevirtual 369, 3) := by decide +kernel
theorem d_Model_parish_138 : decode og_c_Model_parish 138 = .ok (.aload_n 0, 1) := by decide +kernel
theorem d_Model_parish_139 : decode og_c_Model_parish 139 = .ok (.getfield 360, 3) := by decide +kernel
theorem d_Model_parish_142 : decode og_c_Model_parish 142 = .ok (.ireturn, 1) := by decide +kernel
def m_Model_parish : og_Dn := og_den [17] 2 0 (og_seq (og_putf 3 (og_loc 0) (og_get 1 (og_loc 0))) (og_seq (og_putf 1 (og_loc 0) (og_k 0)) (og_seq (og_putf 2 (og_loc 0) (og_k 0)) (og_seq (og_putf 4 (og_loc 0) (og_k (-1))) (og_seq (og_putf 5 (og_loc 0) (og_k 0)) (og_seq (og_putf 6 (og_loc 0) (og_k (-1))) (og_seq (og_putf 46 (og_loc 0) (og_k 0)) (og_seq (og_ast 4 (og_fix (fun _ => 1028) (og_loc 0)) (og_k 0) (og_k 0)) (og_seq (og_ast 4 (og_fix (fun _ => 1028) (og_loc 0)) (og_k 1) (og_k 0)) (og_cut (og_seq (og_set 1 (og_k 0)) (og_while (og_cc og_rlt (og_loc 1) (og_k 5)) (og_ast 10 (og_fix (fun _ => 1034) (og_loc 0)) (og_loc 1) (og_k (-1))) (og_inc 1 1))) (og_seq (og_putf 47 (og_loc 0) (og_k 0)) (og_cut (og_while (og_and (og_cc og_req (og_get 5 (og_loc 0)) (og_k 0)) (og_cc og_rne (og_call m_Model_look [og_loc 0]) (og_k (-1)))) (og_exp (og_call m_Model_statementTold [og_loc 0])) (og_skip)) (og_seq (og_putf 7 (og_loc 0) (og_get 5 (og_loc 0))) (og_seq (og_putf 8 (og_loc 0) (og_get 6 (og_loc 0))) (og_seq (og_if (og_cc og_rne (og_get 5 (og_loc 0)) (og_k 0)) (og_seq (og_aop og_padd 6 (og_fix (fun _ => 1002) (og_loc 0)) (og_k 1) (og_k 1)) (og_ret (og_k (-1)))) (og_skip)) (og_seq (og_exp (og_call m_Model_stands [og_loc 0])) (og_ret (og_get 47 (og_loc 0)))))))))))))))))))
set_option maxRecDepth 20000 in
theorem ok_Model_parish : og_MOK og_y_Model_parish og_c_Model_parish 2 0 12 [17] m_Model_parish := og_method (b := 0) (lt' := []) (by decide +kernel) (by decide) (by decide) (og_sseq (og_p_Model_end (og_aload_n (i := 0) (t := 15) (j := 0) (by rfl) (by rfl) d_Model_parish_0) (og_f_Model_taped (og_aload_n (i := 0) (t := 15) (j := 0) (by rfl) (by rfl) d_Model_parish_1) og_w1144 d_Model_parish_2) og_w1146 d_Model_parish_5) (og_sseq (og_p_Model_taped (og_aload_n (i := 0) (t := 15) (j := 0) (by rfl) (by rfl) d_Model_parish_8) (og_iconst (by decide) d_Model_parish_9) og_w1144 d_Model_parish_10) (og_sseq (og_p_Model_at (og_aload_n (i := 0) (t := 15) (j := 0) (by rfl) (by rfl) d_Model_parish_13) (og_iconst (by decide) d_Model_parish_14) og_w1145 d_Model_parish_15) (og_sseq (og_p_Model_ended (og_aload_n (i := 0) (t := 15) (j := 0) (by rfl) (by rfl) d_Model_parish_18) (og_iconst (by decide) d_Model_parish_19) og_w1147 d_Model_parish_20) (og_sseq (og_p_Model_bad (og_aload_n (i := 0) (t := 15) (j := 0) (by rfl) (by rfl) d_Model_parish_23) (og_iconst (by decide) d_Model_parish_24) og_w1148 d_Model_parish_25) (og_sseq (og_p_Model_badPlace (og_aload_n (i := 0) (t := 15) (j := 0) (by rfl) (by rfl) d_Model_parish_28) (og_iconst (by decide) d_Model_parish_29) og_w1149 d_Model_parish_30) (og_sseq (og_p_Model_coded (og_aload_n (i := 0) (t := 15) (j := 0) (by rfl) (by rfl) d_Model_parish_33) (og_iconst (by decide) d_Model_parish_34) og_w1189 d_Model_parish_35) (og_sseq (og_iastore (N := 4) (og_f_Model_many (og_aload_n (i := 0) (t := 15) (j := 0) (by rfl) (by rfl) d_Model_parish_38) og_w1180 d_Model_parish_39) (by rfl) (og_iconst (by decide) d_Model_parish_42) (og_iconst (by decide) d_Model_parish_43) d_Model_parish_44) (og_sseq (og_iastore (N := 4) (og_f_Model_many (og_aload_n (i := 0) (t := 15) (j := 0) (by rfl) (by rfl) d_Model_parish_45) og_w1180 d_Model_parish_46) (by rfl) (og_iconst (by decide) d_Model_parish_49) (og_iconst (by decide) d_Model_parish_50) d_Model_parish_51) (og_scut (og_sdrop (lt' := [(0, 17), (1, 0)]) (lt2 := [(0, 17)]) (og_sseq (og_istore_n (i := 1) (lt' := [(0, 17), (1, 0)]) (og_iconst (by decide) d_Model_parish_52) (by rfl) (by decide) (by decide) d_Model_parish_53) (og_swhile (T := 59) (F := 72) (cp0 := 66) (og_ccn og_n_lt (og_ige (tgt := 72) (og_iload_n (i := 1) (j := 1) (by rfl) (by rfl) d_Model_parish_54) (og_iconst (by decide) d_Model_parish_55) d_Model_parish_56 (by decide))) (og_iastore (N := 10) (og_f_Model_codeFrom (og_aload_n (i := 0) (t := 15) (j := 0) (by rfl) (by rfl) d_Model_parish_59) og_w1186 d_Model_parish_60) (by rfl) (og_iload_n (i := 1) (j := 1) (by rfl) (by rfl) d_Model_parish_63) (og_iconst (by decide) d_Model_parish_64) d_Model_parish_65) (og_gS (b' := 54) (og_iinc (j := 1) (lt' := [(0, 17), (1, 0)]) (by rfl) (by decide) (by decide) d_Model_parish_66) d_Model_parish_69 (by decide)))) (by decide)) (og_sseq (og_p_Model_statements (og_aload_n (i := 0) (t := 15) (j := 0) (by rfl) (by rfl) d_Model_parish_72) (og_iconst (by decide) d_Model_parish_73) og_w1190 d_Model_parish_74) (og_scut (og_swhile (T := 92) (F := 99) (cp0 := 77) (og_cand (og_ccn og_n_eq (og_zne (tgt := 99) (og_f_Model_bad (og_aload_n (i := 0) (t := 15) (j := 0) (by rfl) (by rfl) d_Model_parish_77) og_w1148 d_Model_parish_78) d_Model_parish_81 (by decide))) (og_ccn og_n_ne (og_ieq (tgt := 99) (og_callVi (og_acons (og_aload_n (i := 0) (t := 15) (j := 0) (by rfl) (by rfl) d_Model_parish_84) (og_anil)) (by decide) ok_Model_look (v_Model_look (by decide)) og_w1464 d_Model_parish_85) (og_iconst (by decide) d_Model_parish_88) d_Model_parish_89 (by decide)))) (og_gS (b' := 77) (og_callVv (og_acons (og_aload_n (i := 0) (t := 15) (j := 0) (by rfl) (by rfl) d_Model_parish_92) (og_anil)) ok_Model_statementTold (v_Model_statementTold (by decide)) og_w1468 d_Model_parish_93) d_Model_parish_96 (by decide)) (og_sskip)) (og_sseq (og_p_Model_fault (og_aload_n (i := 0) (t := 15) (j := 0) (by rfl) (by rfl) d_Model_parish_99) (og_f_Model_bad (og_aload_n (i := 0) (t := 15) (j := 0) (by rfl) (by rfl) d_Model_parish_100) og_w1148 d_Model_parish_101) og_w1150 d_Model_parish_104) (og_sseq (og_p_Model_faultPlace (og_aload_n (i := 0) (t := 15) (j := 0) (by rfl) (by rfl) d_Model_parish_107) (og_f_Model_badPlace (og_aload_n (i := 0) (t := 15) (j := 0) (by rfl) (by rfl) d_Model_parish_108) og_w1149 d_Model_parish_109) og_w1151 d_Model_parish_112) (og_sseq (og_sif (T := 122) (F := 134) (og_ccn og_n_ne (og_zeq (tgt := 134) (og_f_Model_bad (og_aload_n (i := 0) (t := 15) (j := 0) (by rfl) (by rfl) d_Model_parish_115) og_w1148 d_Model_parish_116) d_Model_parish_119 (by decide))) (og_sseq (og_aadd (N := 6) (og_f_Model_refused (og_aload_n (i := 0) (t := 15) (j := 0) (by rfl) (by rfl) d_Model_parish_122) og_w1152 d_Model_parish_123) (by rfl) (og_iconst (by decide) d_Model_parish_126) d_Model_parish_127 d_Model_parish_128 (og_iconst (by decide) d_Model_parish_129) d_Model_parish_130 d_Model_parish_131) (og_sreti (og_iconst (by decide) d_Model_parish_132) d_Model_parish_133)) (og_sskip)) (og_sseq (og_callVv (og_acons (og_aload_n (i := 0) (t := 15) (j := 0) (by rfl) (by rfl) d_Model_parish_134) (og_anil)) ok_Model_stands (v_Model_stands (by decide)) og_w1621 d_Model_parish_135) (og_sreti (og_f_Model_statements (og_aload_n (i := 0) (t := 15) (j := 0) (by rfl) (by rfl) d_Model_parish_138) og_w1190 d_Model_parish_139) d_Model_parish_142))))))))))))))))) (fun h => by cases h)
abbrev og_c_Model_fault : ByteArray := prog_14_method_28_code
abbrev og_y_Model_fault : MethodName := ⟨"OpenGravesModel", "fault", "(I)I"⟩
theorem v_Model_fault {own : String} {idx dep : Nat} (h : 1 + 1 ≤ dep) : og_sV own idx og_y_Model_fault og_c_Model_fault 2 0 1 dep 13 1 := ⟨⟨12, og_sl_Model, og_T_Model, 102, rfl, by decide, rfl⟩, og_w1626, og_w1627, og_w17, og_w1628, ⟨by decide +kernel, by decide +kernel, by decide +kernel⟩, h, by decide⟩
theorem d_Model_fault_0 : decode og_c_Model_fault 0 = .ok (.iload_n 1, 1) := by decide +kernel
theorem d_Model_fault_1 : decode og_c_Model_fault 1 = .ok (.ifCond .ne 10, 3) := by decide +kernel
theorem d_Model_fault_4 : decode og_c_Model_fault 4 = .ok (.aload_n 0, 1) := by decide +kernel
theorem d_Model_fault_5 : decode og_c_Model_fault 5 = .ok (.getfield 366, 3) := by decide +kernel
theorem d_Model_fault_8 : decode og_c_Model_fault 8 = .ok (.goto 16, 3) := by decide +kernel
theorem d_Model_fault_11 : decode og_c_Model_fault 11 = .ok (.iload_n 1, 1) := by decide +kernel
theorem d_Model_fault_12 : decode og_c_Model_fault 12 = .ok (.iconst 1, 1) := by decide +kernel
theorem d_Model_fault_13 : decode og_c_Model_fault 13 = .ok (.if_icmp .ne 10, 3) := by decide +kernel
theorem d_Model_fault_16 : decode og_c_Model_fault 16 = .ok (.aload_n 0, 1) := by decide +kernel
theorem d_Model_fault_17 : decode og_c_Model_fault 17 = .ok (.getfield 13, 3) := by decide +kernel
theorem d_Model_fault_20 : decode og_c_Model_fault 20 = .ok (.goto 4, 3) := by decide +kernel
theorem d_Model_fault_23 : decode og_c_Model_fault 23 = .ok (.iconst (-1), 1) := by decide +kernel
theorem d_Model_fault_24 : decode og_c_Model_fault 24 = .ok (.ireturn, 1) := by decide +kernel
def m_Model_fault : og_Dn := og_den [17, 0] 2 0 (og_ret (og_ei (og_cc og_req (og_loc 1) (og_k 0)) (og_get 7 (og_loc 0)) (og_ei (og_cc og_req (og_loc 1) (og_k 1)) (og_get 8 (og_loc 0)) (og_k (-1)))))
set_option maxRecDepth 20000 in
theorem ok_Model_fault : og_MOK og_y_Model_fault og_c_Model_fault 2 0 1 [17, 0] m_Model_fault := og_method (b := 0) (lt' := []) (by decide +kernel) (by decide) (by decide) (og_sreti (og_eite (og_ccn og_n_eq (og_zne (tgt := 11) (og_iload_n (i := 1) (j := 1) (by rfl) (by rfl) d_Model_fault_0) d_Model_fault_1 (by decide))) (og_f_Model_fault (og_aload_n (i := 0) (t := 15) (j := 0) (by rfl) (by rfl) d_Model_fault_4) og_w1150 d_Model_fault_5) d_Model_fault_8 (by decide) (og_eite (og_ccn og_n_eq (og_ine (tgt := 23) (og_iload_n (i := 1) (j := 1) (by rfl) (by rfl) d_Model_fault_11) (og_iconst (by decide) d_Model_fault_12) d_Model_fault_13 (by decide))) (og_f_Model_faultPlace (og_aload_n (i := 0) (t := 15) (j := 0) (by rfl) (by rfl) d_Model_fault_16) og_w1151 d_Model_fault_17) d_Model_fault_20 (by decide) (og_iconst (by decide) d_Model_fault_23))) d_Model_fault_24) (fun h => by cases h)
abbrev og_c_Model_graveMany : ByteArray := prog_14_method_29_code
abbrev og_y_Model_graveMany : MethodName := ⟨"OpenGravesModel", "graveMany", "()I"⟩
theorem v_Model_graveMany {own : String} {idx dep : Nat} (h : 1 + 1 ≤ dep) : og_sV own idx og_y_Model_graveMany og_c_Model_graveMany 1 0 1 dep 13 0 := ⟨⟨12, og_sl_Model, og_T_Model, 102, rfl, by decide, rfl⟩, og_w1651, (og_memP (⟨"OpenGravesModel", "graveMany", "()I"⟩, 102) (List.mem_of_getElem? (i := 91) (by decide +kernel))), og_w17, og_w1652, ⟨by decide +kernel, by decide +kernel, by decide +kernel⟩, h, by decide⟩
theorem d_Model_graveMany_0 : decode og_c_Model_graveMany 0 = .ok (.aload_n 0, 1) := by decide +kernel
theorem d_Model_graveMany_1 : decode og_c_Model_graveMany 1 = .ok (.getfield 96, 3) := by decide +kernel
theorem d_Model_graveMany_4 : decode og_c_Model_graveMany 4 = .ok (.iconst 2, 1) := by decide +kernel
theorem d_Model_graveMany_5 : decode og_c_Model_graveMany 5 = .ok (.iaload, 1) := by decide +kernel
theorem d_Model_graveMany_6 : decode og_c_Model_graveMany 6 = .ok (.ireturn, 1) := by decide +kernel
def m_Model_graveMany : og_Dn := og_den [17] 1 0 (og_ret (og_ald 4 (og_fix (fun _ => 1028) (og_loc 0)) (og_k 2)))
set_option maxRecDepth 20000 in
theorem ok_Model_graveMany : og_MOK og_y_Model_graveMany og_c_Model_graveMany 1 0 1 [17] m_Model_graveMany := og_method (b := 0) (lt' := []) (by decide +kernel) (by decide) (by decide) (og_sreti (og_iald (N := 4) (og_f_Model_many (og_aload_n (i := 0) (t := 15) (j := 0) (by rfl) (by rfl) d_Model_graveMany_0) og_w1180 d_Model_graveMany_1) (by rfl) (og_iconst (by decide) d_Model_graveMany_4) d_Model_graveMany_5) d_Model_graveMany_6) (fun h => by cases h)
abbrev og_c_Model_personMany : ByteArray := prog_14_method_30_code
abbrev og_y_Model_personMany : MethodName := ⟨"OpenGravesModel", "personMany", "()I"⟩
theorem v_Model_personMany {own : String} {idx dep : Nat} (h : 1 + 1 ≤ dep) : og_sV own idx og_y_Model_personMany og_c_Model_personMany 1 0 1 dep 13 0 := ⟨⟨12, og_sl_Model, og_T_Model, 102, rfl, by decide, rfl⟩, og_w1639, (og_memP (⟨"OpenGravesModel", "personMany", "()I"⟩, 102) (List.mem_of_getElem? (i := 88) (by decide +kernel))), og_w17, og_w1640, ⟨by decide +kernel, by decide +kernel, by decide +kernel⟩, h, by decide⟩
theorem d_Model_personMany_0 : decode og_c_Model_personMany 0 = .ok (.aload_n 0, 1) := by decide +kernel
theorem d_Model_personMany_1 : decode og_c_Model_personMany 1 = .ok (.getfield 96, 3) := by decide +kernel
theorem d_Model_personMany_4 : decode og_c_Model_personMany 4 = .ok (.iconst 3, 1) := by decide +kernel
theorem d_Model_personMany_5 : decode og_c_Model_personMany 5 = .ok (.iaload, 1) := by decide +kernel
theorem d_Model_personMany_6 : decode og_c_Model_personMany 6 = .ok (.ireturn, 1) := by decide +kernel
def m_Model_personMany : og_Dn := og_den [17] 1 0 (og_ret (og_ald 4 (og_fix (fun _ => 1028) (og_loc 0)) (og_k 3)))
set_option maxRecDepth 20000 in
theorem ok_Model_personMany : og_MOK og_y_Model_personMany og_c_Model_personMany 1 0 1 [17] m_Model_personMany := og_method (b := 0) (lt' := []) (by decide +kernel) (by decide) (by decide) (og_sreti (og_iald (N := 4) (og_f_Model_many (og_aload_n (i := 0) (t := 15) (j := 0) (by rfl) (by rfl) d_Model_personMany_0) og_w1180 d_Model_personMany_1) (by rfl) (og_iconst (by decide) d_Model_personMany_4) d_Model_personMany_5) d_Model_personMany_6) (fun h => by cases h)
abbrev og_c_Model_isGrave : ByteArray := prog_14_method_31_code
abbrev og_y_Model_isGrave : MethodName := ⟨"OpenGravesModel", "isGrave", "(J)Z"⟩
theorem v_Model_isGrave {own : String} {idx dep : Nat} (h : 2 + 1 ≤ dep) : og_sV own idx og_y_Model_isGrave og_c_Model_isGrave 3 3 2 dep 13 1 := ⟨⟨12, og_sl_Model, og_T_Model, 102, rfl, by decide, rfl⟩, og_w1680, (og_memP (⟨"OpenGravesModel", "isGrave", "(J)Z"⟩, 102) (List.mem_of_getElem? (i := 96) (by decide +kernel))), og_w17, og_w1681, ⟨by decide +kernel, by decide +kernel, by decide +kernel⟩, h, by decide⟩
theorem d_Model_isGrave_0 : decode og_c_Model_isGrave 0 = .ok (.lload_n 1, 1) := by decide +kernel
theorem d_Model_isGrave_1 : decode og_c_Model_isGrave 1 = .ok (.lconst 0, 1) := by decide +kernel
theorem d_Model_isGrave_2 : decode og_c_Model_isGrave 2 = .ok (.aload_n 0, 1) := by decide +kernel
theorem d_Model_isGrave_3 : decode og_c_Model_isGrave 3 = .ok (.invokevirtual 378, 3) := by decide +kernel
theorem d_Model_isGrave_6 : decode og_c_Model_isGrave 6 = .ok (.iconst 1, 1) := by decide +kernel
theorem d_Model_isGrave_7 : decode og_c_Model_isGrave 7 = .ok (.isub, 1) := by decide +kernel
theorem d_Model_isGrave_8 : decode og_c_Model_isGrave 8 = .ok (.i2l, 1) := by decide +kernel
theorem d_Model_isGrave_9 : decode og_c_Model_isGrave 9 = .ok (.invokestatic 285, 3) := by decide +kernel
theorem d_Model_isGrave_12 : decode og_c_Model_isGrave 12 = .ok (.ireturn, 1) := by decide +kernel
def m_Model_isGrave : og_Dn := og_den [17, 1] 3 3 (og_retz (og_call m_Model_isIn [og_loc 1, og_k 0, og_i2l (og_sub (og_call m_Model_graveMany [og_loc 0]) (og_k 1))]))
set_option maxRecDepth 20000 in
theorem ok_Model_isGrave : og_MOK og_y_Model_isGrave og_c_Model_isGrave 3 3 2 [17, 1] m_Model_isGrave := og_method (b := 0) (lt' := []) (by decide +kernel) (by decide) (by decide) (og_sretz (og_callSz (og_acons (og_lload_n (i := 1) (j := 1) (by rfl) (by rfl) d_Model_isGrave_0) (og_acons (og_lconst (x := 0) d_Model_isGrave_1) (og_acons (og_i2l_ (og_isub (og_callVi (og_acons (og_aload_n (i := 0) (t := 15) (j := 0) (by rfl) (by rfl) d_Model_isGrave_2) (og_anil)) (by decide) ok_Model_graveMany (v_Model_graveMany (by decide)) og_w1649 d_Model_isGrave_3) (og_iconst (by decide) d_Model_isGrave_6) d_Model_isGrave_7) d_Model_isGrave_8) (og_anil)))) (by decide) ok_Model_isIn (v_Model_isIn (by decide)) og_w1520 d_Model_isGrave_9) d_Model_isGrave_12) (fun h => by cases h)
abbrev og_c_Model_isPerson : ByteArray := prog_14_method_32_code
abbrev og_y_Model_isPerson : MethodName := ⟨"OpenGravesModel", "isPerson", "(I)Z"⟩
theorem v_Model_isPerson {own : String} {idx dep : Nat} (h : 2 + 1 ≤ dep) : og_sV own idx og_y_Model_isPerson og_c_Model_isPerson 2 3 2 dep 13 1 := ⟨⟨12, og_sl_Model, og_T_Model, 102, rfl, by decide, rfl⟩, og_w1692, (og_memP (⟨"OpenGravesModel", "isPerson", "(I)Z"⟩, 102) (List.mem_of_getElem? (i := 98) (by decide +kernel))), og_w17, og_w1693, ⟨by decide +kernel, by decide +kernel, by decide +kernel⟩, h, by decide⟩
theorem d_Model_isPerson_0 : decode og_c_Model_isPerson 0 = .ok (.iload_n 1, 1) := by decide +kernel
theorem d_Model_isPerson_1 : decode og_c_Model_isPerson 1 = .ok (.i2l, 1) := by decide +kernel
theorem d_Model_isPerson_2 : decode og_c_Model_isPerson 2 = .ok (.lconst 0, 1) := by decide +kernel
theorem d_Model_isPerson_3 : decode og_c_Model_isPerson 3 = .ok (.aload_n 0, 1) := by decide +kernel
theorem d_Model_isPerson_4 : decode og_c_Model_isPerson 4 = .ok (.invokevirtual 381, 3) := by decide +kernel
theorem d_Model_isPerson_7 : decode og_c_Model_isPerson 7 = .ok (.iconst 1, 1) := by decide +kernel
theorem d_Model_isPerson_8 : decode og_c_Model_isPerson 8 = .ok (.isub, 1) := by decide +kernel
theorem d_Model_isPerson_9 : decode og_c_Model_isPerson 9 = .ok (.i2l, 1) := by decide +kernel
theorem d_Model_isPerson_10 : decode og_c_Model_isPerson 10 = .ok (.invokestatic 285, 3) := by decide +kernel
theorem d_Model_isPerson_13 : decode og_c_Model_isPerson 13 = .ok (.ireturn, 1) := by decide +kernel
def m_Model_isPerson : og_Dn := og_den [17, 0] 2 3 (og_retz (og_call m_Model_isIn [og_i2l (og_loc 1), og_k 0, og_i2l (og_sub (og_call m_Model_personMany [og_loc 0]) (og_k 1))]))
set_option maxRecDepth 20000 in
theorem ok_Model_isPerson : og_MOK og_y_Model_isPerson og_c_Model_isPerson 2 3 2 [17, 0] m_Model_isPerson := og_method (b := 0) (lt' := []) (by decide +kernel) (by decide) (by decide) (og_sretz (og_callSz (og_acons (og_i2l_ (og_iload_n (i := 1) (j := 1) (by rfl) (by rfl) d_Model_isPerson_0) d_Model_isPerson_1) (og_acons (og_lconst (x := 0) d_Model_isPerson_2) (og_acons (og_i2l_ (og_isub (og_callVi (og_acons (og_aload_n (i := 0) (t := 15) (j := 0) (by rfl) (by rfl) d_Model_isPerson_3) (og_anil)) (by decide) ok_Model_personMany (v_Model_personMany (by decide)) og_w1637 d_Model_isPerson_4) (og_iconst (by decide) d_Model_isPerson_7) d_Model_isPerson_8) d_Model_isPerson_9) (og_anil)))) (by decide) ok_Model_isIn (v_Model_isIn (by decide)) og_w1520 d_Model_isPerson_10) d_Model_isPerson_13) (fun h => by cases h)
abbrev og_c_Model_deepOf : ByteArray := prog_14_method_33_code
abbrev og_y_Model_deepOf : MethodName := ⟨"OpenGravesModel", "deepOf", "(I)I"⟩
theorem v_Model_deepOf {own : String} {idx dep : Nat} (h : 1 + 1 ≤ dep) : og_sV own idx og_y_Model_deepOf og_c_Model_deepOf 2 0 1 dep 13 1 := ⟨⟨12, og_sl_Model, og_T_Model, 102, rfl, by decide, rfl⟩, og_w1659, (og_memP (⟨"OpenGravesModel", "deepOf", "(I)I"⟩, 102) (List.mem_of_getElem? (i := 93) (by decide +kernel))), og_w17, og_w1660, ⟨by decide +kernel, by decide +kernel, by decide +kernel⟩, h, by decide⟩
theorem d_Model_deepOf_0 : decode og_c_Model_deepOf 0 = .ok (.aload_n 0, 1) := by decide +kernel
theorem d_Model_deepOf_1 : decode og_c_Model_deepOf 1 = .ok (.getfield 124, 3) := by decide +kernel
theorem d_Model_deepOf_4 : decode og_c_Model_deepOf 4 = .ok (.iconst 1, 1) := by decide +kernel
theorem d_Model_deepOf_5 : decode og_c_Model_deepOf 5 = .ok (.iconst 3, 1) := by decide +kernel
theorem d_Model_deepOf_6 : decode og_c_Model_deepOf 6 = .ok (.iload_n 1, 1) := by decide +kernel
theorem d_Model_deepOf_7 : decode og_c_Model_deepOf 7 = .ok (.imul, 1) := by decide +kernel
theorem d_Model_deepOf_8 : decode og_c_Model_deepOf 8 = .ok (.iadd, 1) := by decide +kernel
theorem d_Model_deepOf_9 : decode og_c_Model_deepOf 9 = .ok (.iaload, 1) := by decide +kernel
theorem d_Model_deepOf_10 : decode og_c_Model_deepOf 10 = .ok (.ireturn, 1) := by decide +kernel
def m_Model_deepOf : og_Dn := og_den [17, 0] 2 0 (og_ret (og_ald 204 (og_fix (fun _ => 1037) (og_loc 0)) (og_add (og_k 1) (og_mul (og_k 3) (og_loc 1)))))
set_option maxRecDepth 20000 in
theorem ok_Model_deepOf : og_MOK og_y_Model_deepOf og_c_Model_deepOf 2 0 1 [17, 0] m_Model_deepOf := og_method (b := 0) (lt' := []) (by decide +kernel) (by decide) (by decide) (og_sreti (og_iald (N := 204) (og_f_Model_now (og_aload_n (i := 0) (t := 15) (j := 0) (by rfl) (by rfl) d_Model_deepOf_0) og_w1192 d_Model_deepOf_1) (by rfl) (og_iadd (og_iconst (by decide) d_Model_deepOf_4) (og_imul (og_iconst (by decide) d_Model_deepOf_5) (og_iload_n (i := 1) (j := 1) (by rfl) (by rfl) d_Model_deepOf_6) d_Model_deepOf_7) d_Model_deepOf_8) d_Model_deepOf_9) d_Model_deepOf_10) (fun h => by cases h)
abbrev og_c_Model_dueOf : ByteArray := prog_14_method_34_code
abbrev og_y_Model_dueOf : MethodName := ⟨"OpenGravesModel", "dueOf", "(I)I"⟩
theorem v_Model_dueOf {own : String} {idx dep : Nat} (h : 1 + 1 ≤ dep) : og_sV own idx og_y_Model_dueOf og_c_Model_dueOf 2 0 1 dep 13 1 := ⟨⟨12, og_sl_Model, og_T_Model, 102, rfl, by decide, rfl⟩, og_w1684, (og_memP (⟨"OpenGravesModel", "dueOf", "(I)I"⟩, 102) (List.mem_of_getElem? (i := 97) (by decide +kernel))), og_w17, og_w1685, ⟨by decide +kernel, by decide +kernel, by decide +kernel⟩, h, by decide⟩
theorem d_Model_dueOf_0 : decode og_c_Model_dueOf 0 = .ok (.aload_n 0, 1) := by decide +kernel
theorem d_Model_dueOf_1 : decode og_c_Model_dueOf 1 = .ok (.getfield 124, 3) := by decide +kernel
theorem d_Model_dueOf_4 : decode og_c_Model_dueOf 4 = .ok (.iconst 2, 1) := by decide +kernel
theorem d_Model_dueOf_5 : decode og_c_Model_dueOf 5 = .ok (.iconst 3, 1) := by decide +kernel
theorem d_Model_dueOf_6 : decode og_c_Model_dueOf 6 = .ok (.iload_n 1, 1) := by decide +kernel
theorem d_Model_dueOf_7 : decode og_c_Model_dueOf 7 = .ok (.imul, 1) := by decide +kernel
theorem d_Model_dueOf_8 : decode og_c_Model_dueOf 8 = .ok (.iadd, 1) := by decide +kernel
theorem d_Model_dueOf_9 : decode og_c_Model_dueOf 9 = .ok (.iaload, 1) := by decide +kernel
theorem d_Model_dueOf_10 : decode og_c_Model_dueOf 10 = .ok (.ireturn, 1) := by decide +kernel
def m_Model_dueOf : og_Dn := og_den [17, 0] 2 0 (og_ret (og_ald 204 (og_fix (fun _ => 1037) (og_loc 0)) (og_add (og_k 2) (og_mul (og_k 3) (og_loc 1)))))
set_option maxRecDepth 20000 in
theorem ok_Model_dueOf : og_MOK og_y_Model_dueOf og_c_Model_dueOf 2 0 1 [17, 0] m_Model_dueOf := og_method (b := 0) (lt' := []) (by decide +kernel) (by decide) (by decide) (og_sreti (og_iald (N := 204) (og_f_Model_now (og_aload_n (i := 0) (t := 15) (j := 0) (by rfl) (by rfl) d_Model_dueOf_0) og_w1192 d_Model_dueOf_1) (by rfl) (og_iadd (og_iconst (by decide) d_Model_dueOf_4) (og_imul (og_iconst (by decide) d_Model_dueOf_5) (og_iload_n (i := 1) (j := 1) (by rfl) (by rfl) d_Model_dueOf_6) d_Model_dueOf_7) d_Model_dueOf_8) d_Model_dueOf_9) d_Model_dueOf_10) (fun h => by cases h)
abbrev og_c_Model_inGrave : ByteArray := prog_14_method_35_code
abbrev og_y_Model_inGrave : MethodName := ⟨"OpenGravesModel", "inGrave", "(I)I"⟩
theorem v_Model_inGrave {own : String} {idx dep : Nat} (h : 1 + 1 ≤ dep) : og_sV own idx og_y_Model_inGrave og_c_Model_inGrave 2 0 1 dep 13 1 := ⟨⟨12, og_sl_Model, og_T_Model, 102, rfl, by decide, rfl⟩, og_w1663, (og_memP (⟨"OpenGravesModel", "inGrave", "(I)I"⟩, 102) (List.mem_of_getElem? (i := 94) (by decide +kernel))), og_w17, og_w1664, ⟨by decide +kernel, by decide +kernel, by decide +kernel⟩, h, by decide⟩
theorem d_Model_inGrave_0 : decode og_c_Model_inGrave 0 = .ok (.aload_n 0, 1) := by decide +kernel
theorem d_Model_inGrave_1 : decode og_c_Model_inGrave 1 = .ok (.getfield 124, 3) := by decide +kernel
theorem d_Model_inGrave_4 : decode og_c_Model_inGrave 4 = .ok (.iconst 3, 1) := by decide +kernel
theorem d_Model_inGrave_5 : decode og_c_Model_inGrave 5 = .ok (.iconst 3, 1) := by decide +kernel
theorem d_Model_inGrave_6 : decode og_c_Model_inGrave 6 = .ok (.iload_n 1, 1) := by decide +kernel
theorem d_Model_inGrave_7 : decode og_c_Model_inGrave 7 = .ok (.imul, 1) := by decide +kernel
theorem d_Model_inGrave_8 : decode og_c_Model_inGrave 8 = .ok (.iadd, 1) := by decide +kernel
theorem d_Model_inGrave_9 : decode og_c_Model_inGrave 9 = .ok (.iaload, 1) := by decide +kernel
theorem d_Model_inGrave_10 : decode og_c_Model_inGrave 10 = .ok (.ireturn, 1) := by decide +kernel
def m_Model_inGrave : og_Dn := og_den [17, 0] 2 0 (og_ret (og_ald 204 (og_fix (fun _ => 1037) (og_loc 0)) (og_add (og_k 3) (og_mul (og_k 3) (og_loc 1)))))
set_option maxRecDepth 20000 in
theorem ok_Model_inGrave : og_MOK og_y_Model_inGrave og_c_Model_inGrave 2 0 1 [17, 0] m_Model_inGrave := og_method (b := 0) (lt' := []) (by decide +kernel) (by decide) (by decide) (og_sreti (og_iald (N := 204) (og_f_Model_now (og_aload_n (i := 0) (t := 15) (j := 0) (by rfl) (by rfl) d_Model_inGrave_0) og_w1192 d_Model_inGrave_1) (by rfl) (og_iadd (og_iconst (by decide) d_Model_inGrave_4) (og_imul (og_iconst (by decide) d_Model_inGrave_5) (og_iload_n (i := 1) (j := 1) (by rfl) (by rfl) d_Model_inGrave_6) d_Model_inGrave_7) d_Model_inGrave_8) d_Model_inGrave_9) d_Model_inGrave_10) (fun h => by cases h)
abbrev og_c_Model_doesAsk : ByteArray := prog_14_method_36_code
abbrev og_y_Model_doesAsk : MethodName := ⟨"OpenGravesModel", "doesAsk", "(I)Z"⟩
theorem v_Model_doesAsk {own : String} {idx dep : Nat} (h : 2 + 1 ≤ dep) : og_sV own idx og_y_Model_doesAsk og_c_Model_doesAsk 2 3 2 dep 13 1 := ⟨⟨12, og_sl_Model, og_T_Model, 102, rfl, by decide, rfl⟩, og_w1655, (og_memP (⟨"OpenGravesModel", "doesAsk", "(I)Z"⟩, 102) (List.mem_of_getElem? (i := 92) (by decide +kernel))), og_w17, og_w1656, ⟨by decide +kernel, by decide +kernel, by decide +kernel⟩, h, by decide⟩
theorem d_Model_doesAsk_0 : decode og_c_Model_doesAsk 0 = .ok (.aload_n 0, 1) := by decide +kernel
theorem d_Model_doesAsk_1 : decode og_c_Model_doesAsk 1 = .ok (.iload_n 1, 1) := by decide +kernel
theorem d_Model_doesAsk_2 : decode og_c_Model_doesAsk 2 = .ok (.invokevirtual 384, 3) := by decide +kernel
theorem d_Model_doesAsk_5 : decode og_c_Model_doesAsk 5 = .ok (.bipush 6, 2) := by decide +kernel
theorem d_Model_doesAsk_7 : decode og_c_Model_doesAsk 7 = .ok (.if_icmp .lt 16, 3) := by decide +kernel
theorem d_Model_doesAsk_10 : decode og_c_Model_doesAsk 10 = .ok (.aload_n 0, 1) := by decide +kernel
theorem d_Model_doesAsk_11 : decode og_c_Model_doesAsk 11 = .ok (.iload_n 1, 1) := by decide +kernel
theorem d_Model_doesAsk_12 : decode og_c_Model_doesAsk 12 = .ok (.invokevirtual 387, 3) := by decide +kernel
theorem d_Model_doesAsk_15 : decode og_c_Model_doesAsk 15 = .ok (.iconst (-1), 1) := by decide +kernel
theorem d_Model_doesAsk_16 : decode og_c_Model_doesAsk 16 = .ok (.if_icmp .ne 7, 3) := by decide +kernel
theorem d_Model_doesAsk_19 : decode og_c_Model_doesAsk 19 = .ok (.iconst 1, 1) := by decide +kernel
theorem d_Model_doesAsk_20 : decode og_c_Model_doesAsk 20 = .ok (.goto 4, 3) := by decide +kernel
theorem d_Model_doesAsk_23 : decode og_c_Model_doesAsk 23 = .ok (.iconst 0, 1) := by decide +kernel
theorem d_Model_doesAsk_24 : decode og_c_Model_doesAsk 24 = .ok (.ireturn, 1) := by decide +kernel
def m_Model_doesAsk : og_Dn := og_den [17, 0] 2 3 (og_retz (og_ec (og_and (og_cc og_rge (og_call m_Model_deepOf [og_loc 0, og_loc 1]) (og_k 6)) (og_cc og_req (og_call m_Model_inGrave [og_loc 0, og_loc 1]) (og_k (-1))))))
set_option maxRecDepth 20000 in
theorem ok_Model_doesAsk : og_MOK og_y_Model_doesAsk og_c_Model_doesAsk 2 3 2 [17, 0] m_Model_doesAsk := og_method (b := 0) (lt' := []) (by decide +kernel) (by decide) (by decide) (og_sretz (og_econd (b := 0) (og_cand (og_ccn og_n_ge (og_ilt (tgt := 23) (og_callVi (og_acons (og_aload_n (i := 0) (t := 15) (j := 0) (by rfl) (by rfl) d_Model_doesAsk_0) (og_acons (og_iload_n (i := 1) (j := 1) (by rfl) (by rfl) d_Model_doesAsk_1) (og_anil))) (by decide) ok_Model_deepOf (v_Model_deepOf (by decide)) og_w1657 d_Model_doesAsk_2) (og_bipush (by decide) d_Model_doesAsk_5) d_Model_doesAsk_7 (by decide))) (og_ccn og_n_eq (og_ine (tgt := 23) (og_callVi (og_acons (og_aload_n (i := 0) (t := 15) (j := 0) (by rfl) (by rfl) d_Model_doesAsk_10) (og_acons (og_iload_n (i := 1) (j := 1) (by rfl) (by rfl) d_Model_doesAsk_11) (og_anil))) (by decide) ok_Model_inGrave (v_Model_inGrave (by decide)) og_w1661 d_Model_doesAsk_12) (og_iconst (by decide) d_Model_doesAsk_15) d_Model_doesAsk_16 (by decide)))) d_Model_doesAsk_19 d_Model_doesAsk_20 (by decide) d_Model_doesAsk_23 (by rfl)) d_Model_doesAsk_24) (fun h => by cases h)
abbrev og_c_Model_askingMany : ByteArray := prog_14_method_37_code
abbrev og_y_Model_askingMany : MethodName := ⟨"OpenGravesModel", "askingMany", "()I"⟩
theorem v_Model_askingMany {own : String} {idx dep : Nat} (h : 3 + 1 ≤ dep) : og_sV own idx og_y_Model_askingMany og_c_Model_askingMany 3 0 3 dep 13 0 := ⟨⟨12, og_sl_Model, og_T_Model, 102, rfl, by decide, rfl⟩, og_w1647, (og_memP (⟨"OpenGravesModel", "askingMany", "()I"⟩, 102) (List.mem_of_getElem? (i := 90) (by decide +kernel))), og_w17, og_w1648, ⟨by decide +kernel, by decide +kernel, by decide +kernel⟩, h, by decide⟩
theorem d_Model_askingMany_0 : decode og_c_Model_askingMany 0 = .ok (.iconst 0, 1) := by decide +kernel
theorem d_Model_askingMany_1 : decode og_c_Model_askingMany 1 = .ok (.istore_n 1, 1) := by decide +kernel
theorem d_Model_askingMany_2 : decode og_c_Model_askingMany 2 = .ok (.iconst 0, 1) := by decide +kernel
theorem d_Model_askingMany_3 : decode og_c_Model_askingMany 3 = .ok (.istore_n 2, 1) := by decide +kernel
theorem d_Model_askingMany_4 : decode og_c_Model_askingMany 4 = .ok (.iload_n 2, 1) := by decide +kernel
theorem d_Model_askingMany_5 : decode og_c_Model_askingMany 5 = .ok (.aload_n 0, 1) := by decide +kernel
theorem d_Model_askingMany_6 : decode og_c_Model_askingMany 6 = .ok (.invokevirtual 378, 3) := by decide +kernel
theorem d_Model_askingMany_9 : decode og_c_Model_askingMany 9 = .ok (.if_icmp .ge 20, 3) := by decide +kernel
theorem d_Model_askingMany_12 : decode og_c_Model_askingMany 12 = .ok (.aload_n 0, 1) := by decide +kernel
theorem d_Model_askingMany_13 : decode og_c_Model_askingMany 13 = .ok (.iload_n 2, 1) := by decide +kernel
theorem d_Model_askingMany_14 : decode og_c_Model_askingMany 14 = .ok (.invokevirtual 390, 3) := by decide +kernel
theorem d_Model_askingMany_17 : decode og_c_Model_askingMany 17 = .ok (.ifCond .eq 6, 3) := by decide +kernel
theorem d_Model_askingMany_20 : decode og_c_Model_askingMany 20 = .ok (.iinc 1 1, 3) := by decide +kernel
theorem d_Model_askingMany_23 : decode og_c_Model_askingMany 23 = .ok (.iinc 2 1, 3) := by decide +kernel
theorem d_Model_askingMany_26 : decode og_c_Model_askingMany 26 = .ok (.goto (-22), 3) := by decide +kernel
theorem d_Model_askingMany_29 : decode og_c_Model_askingMany 29 = .ok (.iload_n 1, 1) := by decide +kernel
theorem d_Model_askingMany_30 : decode og_c_Model_askingMany 30 = .ok (.ireturn, 1) := by decide +kernel
def m_Model_askingMany : og_Dn := og_den [17] 3 0 (og_seq (og_set 1 (og_k 0)) (og_cut (og_seq (og_set 2 (og_k 0)) (og_while (og_cc og_rlt (og_loc 2) (og_call m_Model_graveMany [og_loc 0])) (og_if (og_cb (og_call m_Model_doesAsk [og_loc 0, og_loc 2])) (og_inc 1 1) (og_skip)) (og_inc 2 1))) (og_ret (og_loc 1))))
set_option maxRecDepth 20000 in
theorem ok_Model_askingMany : og_MOK og_y_Model_askingMany og_c_Model_askingMany 3 0 3 [17] m_Model_askingMany := og_method (b := 0) (lt' := []) (by decide +kernel) (by decide) (by decide) (og_sseq (og_istore_n (i := 1) (lt' := [(0, 17), (1, 0)]) (og_iconst (by decide) d_Model_askingMany_0) (by rfl) (by decide) (by decide) d_Model_askingMany_1) (og_scut (og_sdrop (lt' := [(0, 17), (1, 0), (2, 0)]) (lt2 := [(0, 17), (1, 0)]) (og_sseq (og_istore_n (i := 2) (lt' := [(0, 17), (1, 0), (2, 0)]) (og_iconst (by decide) d_Model_askingMany_2) (by rfl) (by decide) (by decide) d_Model_askingMany_3) (og_swhile (T := 12) (F := 29) (cp0 := 23) (og_ccn og_n_lt (og_ige (tgt := 29) (og_iload_n (i := 2) (j := 2) (by rfl) (by rfl) d_Model_askingMany_4) (og_callVi (og_acons (og_aload_n (i := 0) (t := 15) (j := 0) (by rfl) (by rfl) d_Model_askingMany_5) (og_anil)) (by decide) ok_Model_graveMany (v_Model_graveMany (by decide)) og_w1649 d_Model_askingMany_6) d_Model_askingMany_9 (by decide))) (og_sif (T := 20) (F := 23) (og_cbeq (tgt := 23) (og_callVz (og_acons (og_aload_n (i := 0) (t := 15) (j := 0) (by rfl) (by rfl) d_Model_askingMany_12) (og_acons (og_iload_n (i := 2) (j := 2) (by rfl) (by rfl) d_Model_askingMany_13) (og_anil))) (by decide) ok_Model_doesAsk (v_Model_doesAsk (by decide)) og_w1653 d_Model_askingMany_14) d_Model_askingMany_17 (by decide)) (og_iinc (j := 1) (lt' := [(0, 17), (1, 0), (2, 0)]) (by rfl) (by decide) (by decide) d_Model_askingMany_20) (og_sskip)) (og_gS (b' := 4) (og_iinc (j := 2) (lt' := [(0, 17), (1, 0), (2, 0)]) (by rfl) (by decide) (by decide) d_Model_askingMany_23) d_Model_askingMany_26 (by decide)))) (by decide)) (og_sreti (og_iload_n (i := 1) (j := 1) (by rfl) (by rfl) d_Model_askingMany_29) d_Model_askingMany_30))) (fun h => by cases h)
abbrev og_c_Model_isAlive : ByteArray := prog_14_method_38_code
abbrev og_y_Model_isAlive : MethodName := ⟨"OpenGravesModel", "isAlive", "(I)Z"⟩
theorem v_Model_isAlive {own : String} {idx dep : Nat} (h : 1 + 1 ≤ dep) : og_sV own idx og_y_Model_isAlive og_c_Model_isAlive 2 3 1 dep 13 1 := ⟨⟨12, og_sl_Model, og_T_Model, 102, rfl, by decide, rfl⟩, og_w1643, (og_memP (⟨"OpenGravesModel", "isAlive", "(I)Z"⟩, 102) (List.mem_of_getElem? (i := 89) (by decide +kernel))), og_w17, og_w1644, ⟨by decide +kernel, by decide +kernel, by decide +kernel⟩, h, by decide⟩
theorem d_Model_isAlive_0 : decode og_c_Model_isAlive 0 = .ok (.aload_n 0, 1) := by decide +kernel
theorem d_Model_isAlive_1 : decode og_c_Model_isAlive 1 = .ok (.getfield 124, 3) := by decide +kernel
theorem d_Model_isAlive_4 : decode og_c_Model_isAlive 4 = .ok (.bipush 19, 2) := by decide +kernel
theorem d_Model_isAlive_6 : decode og_c_Model_isAlive 6 = .ok (.iconst 3, 1) := by decide +kernel
theorem d_Model_isAlive_7 : decode og_c_Model_isAlive 7 = .ok (.iload_n 1, 1) := by decide +kernel
theorem d_Model_isAlive_8 : decode og_c_Model_isAlive 8 = .ok (.imul, 1) := by decide +kernel
theorem d_Model_isAlive_9 : decode og_c_Model_isAlive 9 = .ok (.iadd, 1) := by decide +kernel
theorem d_Model_isAlive_10 : decode og_c_Model_isAlive 10 = .ok (.iaload, 1) := by decide +kernel
theorem d_Model_isAlive_11 : decode og_c_Model_isAlive 11 = .ok (.iconst 1, 1) := by decide +kernel
theorem d_Model_isAlive_12 : decode og_c_Model_isAlive 12 = .ok (.if_icmp .ne 7, 3) := by decide +kernel
theorem d_Model_isAlive_15 : decode og_c_Model_isAlive 15 = .ok (.iconst 1, 1) := by decide +kernel
theorem d_Model_isAlive_16 : decode og_c_Model_isAlive 16 = .ok (.goto 4, 3) := by decide +kernel
theorem d_Model_isAlive_19 : decode og_c_Model_isAlive 19 = .ok (.iconst 0, 1) := by decide +kernel
theorem d_Model_isAlive_20 : decode og_c_Model_isAlive 20 = .ok (.ireturn, 1) := by decide +kernel
def m_Model_isAlive : og_Dn := og_den [17, 0] 2 3 (og_retz (og_ec (og_cc og_req (og_ald 204 (og_fix (fun _ => 1037) (og_loc 0)) (og_add (og_k 19) (og_mul (og_k 3) (og_loc 1)))) (og_k 1))))
set_option maxRecDepth 20000 in
theorem ok_Model_isAlive : og_MOK og_y_Model_isAlive og_c_Model_isAlive 2 3 1 [17, 0] m_Model_isAlive := og_method (b := 0) (lt' := []) (by decide +kernel) (by decide) (by decide) (og_sretz (og_econd (b := 0) (og_ccn og_n_eq (og_ine (tgt := 19) (og_iald (N := 204) (og_f_Model_now (og_aload_n (i := 0) (t := 15) (j := 0) (by rfl) (by rfl) d_Model_isAlive_0) og_w1192 d_Model_isAlive_1) (by rfl) (og_iadd (og_bipush (by decide) d_Model_isAlive_4) (og_imul (og_iconst (by decide) d_Model_isAlive_6) (og_iload_n (i := 1) (j := 1) (by rfl) (by rfl) d_Model_isAlive_7) d_Model_isAlive_8) d_Model_isAlive_9) d_Model_isAlive_10) (og_iconst (by decide) d_Model_isAlive_11) d_Model_isAlive_12 (by decide))) d_Model_isAlive_15 d_Model_isAlive_16 (by decide) d_Model_isAlive_19 (by rfl)) d_Model_isAlive_20) (fun h => by cases h)
abbrev og_c_Model_ageOf : ByteArray := prog_14_method_39_code
abbrev og_y_Model_ageOf : MethodName := ⟨"OpenGravesModel", "ageOf", "(I)I"⟩
theorem v_Model_ageOf {own : String} {idx dep : Nat} (h : 1 + 1 ≤ dep) : og_sV own idx og_y_Model_ageOf og_c_Model_ageOf 2 0 1 dep 13 1 := ⟨⟨12, og_sl_Model, og_T_Model, 102, rfl, by decide, rfl⟩, og_w1696, (og_memP (⟨"OpenGravesModel", "ageOf", "(I)I"⟩, 102) (List.mem_of_getElem? (i := 99) (by decide +kernel))), og_w17, og_w1697, ⟨by decide +kernel, by decide +kernel, by decide +kernel⟩, h, by decide⟩
theorem d_Model_ageOf_0 : decode og_c_Model_ageOf 0 = .ok (.aload_n 0, 1) := by decide +kernel
theorem d_Model_ageOf_1 : decode og_c_Model_ageOf 1 = .ok (.getfield 124, 3) := by decide +kernel
theorem d_Model_ageOf_4 : decode og_c_Model_ageOf 4 = .ok (.bipush 20, 2) := by decide +kernel
theorem d_Model_ageOf_6 : decode og_c_Model_ageOf 6 = .ok (.iconst 3, 1) := by decide +kernel
theorem d_Model_ageOf_7 : decode og_c_Model_ageOf 7 = .ok (.iload_n 1, 1) := by decide +kernel
theorem d_Model_ageOf_8 : decode og_c_Model_ageOf 8 = .ok (.imul, 1) := by decide +kernel
theorem d_Model_ageOf_9 : decode og_c_Model_ageOf 9 = .ok (.iadd, 1) := by decide +kernel
theorem d_Model_ageOf_10 : decode og_c_Model_ageOf 10 = .ok (.iaload, 1) := by decide +kernel
theorem d_Model_ageOf_11 : decode og_c_Model_ageOf 11 = .ok (.ireturn, 1) := by decide +kernel
def m_Model_ageOf : og_Dn := og_den [17, 0] 2 0 (og_ret (og_ald 204 (og_fix (fun _ => 1037) (og_loc 0)) (og_add (og_k 20) (og_mul (og_k 3) (og_loc 1)))))
set_option maxRecDepth 20000 in
theorem ok_Model_ageOf : og_MOK og_y_Model_ageOf og_c_Model_ageOf 2 0 1 [17, 0] m_Model_ageOf := og_method (b := 0) (lt' := []) (by decide +kernel) (by decide) (by decide) (og_sreti (og_iald (N := 204) (og_f_Model_now (og_aload_n (i := 0) (t := 15) (j := 0) (by rfl) (by rfl) d_Model_ageOf_0) og_w1192 d_Model_ageOf_1) (by rfl) (og_iadd (og_bipush (by decide) d_Model_ageOf_4) (og_imul (og_iconst (by decide) d_Model_ageOf_6) (og_iload_n (i := 1) (j := 1) (by rfl) (by rfl) d_Model_ageOf_7) d_Model_ageOf_8) d_Model_ageOf_9) d_Model_ageOf_10) d_Model_ageOf_11) (fun h => by cases h)
abbrev og_c_Model_willOf : ByteArray := prog_14_method_40_code
abbrev og_y_Model_willOf : MethodName := ⟨"OpenGravesModel", "willOf", "(I)I"⟩
theorem v_Model_willOf {own : String} {idx dep : Nat} (h : 1 + 1 ≤ dep) : og_sV own idx og_y_Model_willOf og_c_Model_willOf 2 0 1 dep 13 1 := ⟨⟨12, og_sl_Model, og_T_Model, 102, rfl, by decide, rfl⟩, og_w1700, (og_memP (⟨"OpenGravesModel", "willOf", "(I)I"⟩, 102) (List.mem_of_getElem? (i := 100) (by decide +kernel))), og_w17, og_w1701, ⟨by decide +kernel, by decide +kernel, by decide +kernel⟩, h, by decide⟩
theorem d_Model_willOf_0 : decode og_c_Model_willOf 0 = .ok (.aload_n 0, 1) := by decide +kernel
theorem d_Model_willOf_1 : decode og_c_Model_willOf 1 = .ok (.getfield 124, 3) := by decide +kernel
theorem d_Model_willOf_4 : decode og_c_Model_willOf 4 = .ok (.bipush 21, 2) := by decide +kernel
theorem d_Model_willOf_6 : decode og_c_Model_willOf 6 = .ok (.iconst 3, 1) := by decide +kernel
theorem d_Model_willOf_7 : decode og_c_Model_willOf 7 = .ok (.iload_n 1, 1) := by decide +kernel
theorem d_Model_willOf_8 : decode og_c_Model_willOf 8 = .ok (.imul, 1) := by decide +kernel
theorem d_Model_willOf_9 : decode og_c_Model_willOf 9 = .ok (.iadd, 1) := by decide +kernel
theorem d_Model_willOf_10 : decode og_c_Model_willOf 10 = .ok (.iaload, 1) := by decide +kernel
theorem d_Model_willOf_11 : decode og_c_Model_willOf 11 = .ok (.ireturn, 1) := by decide +kernel
def m_Model_willOf : og_Dn := og_den [17, 0] 2 0 (og_ret (og_ald 204 (og_fix (fun _ => 1037) (og_loc 0)) (og_add (og_k 21) (og_mul (og_k 3) (og_loc 1)))))
set_option maxRecDepth 20000 in
theorem ok_Model_willOf : og_MOK og_y_Model_willOf og_c_Model_willOf 2 0 1 [17, 0] m_Model_willOf := og_method (b := 0) (lt' := []) (by decide +kernel) (by decide) (by decide) (og_sreti (og_iald (N := 204) (og_f_Model_now (og_aload_n (i := 0) (t := 15) (j := 0) (by rfl) (by rfl) d_Model_willOf_0) og_w1192 d_Model_willOf_1) (by rfl) (og_iadd (og_bipush (by decide) d_Model_willOf_4) (og_imul (og_iconst (by decide) d_Model_willOf_6) (og_iload_n (i := 1) (j := 1) (by rfl) (by rfl) d_Model_willOf_7) d_Model_willOf_8) d_Model_willOf_9) d_Model_willOf_10) d_Model_willOf_11) (fun h => by cases h)
abbrev og_c_Model_doesFit : ByteArray := prog_14_method_41_code
abbrev og_y_Model_doesFit : MethodName := ⟨"OpenGravesModel", "doesFit", "(II)Z"⟩
theorem v_Model_doesFit {own : String} {idx dep : Nat} (h : 1 + 1 ≤ dep) : og_sV own idx og_y_Model_doesFit og_c_Model_doesFit 3 3 1 dep 13 2 := ⟨⟨12, og_sl_Model, og_T_Model, 102, rfl, by decide, rfl⟩, og_w1765, (og_memP (⟨"OpenGravesModel", "doesFit", "(II)Z"⟩, 102) (List.mem_of_getElem? (i := 111) (by decide +kernel))), og_w17, og_w1766, ⟨by decide +kernel, by decide +kernel, by decide +kernel⟩, h, by decide⟩
theorem d_Model_doesFit_0 : decode og_c_Model_doesFit 0 = .ok (.aload_n 0, 1) := by decide +kernel
theorem d_Model_doesFit_1 : decode og_c_Model_doesFit 1 = .ok (.getfield 106, 3) := by decide +kernel
theorem d_Model_doesFit_4 : decode og_c_Model_doesFit 4 = .ok (.bipush 8, 2) := by decide +kernel
theorem d_Model_doesFit_6 : decode og_c_Model_doesFit 6 = .ok (.iload_n 1, 1) := by decide +kernel
theorem d_Model_doesFit_7 : decode og_c_Model_doesFit 7 = .ok (.iadd, 1) := by decide +kernel
theorem d_Model_doesFit_8 : decode og_c_Model_doesFit 8 = .ok (.iaload, 1) := by decide +kernel
theorem d_Model_doesFit_9 : decode og_c_Model_doesFit 9 = .ok (.aload_n 0, 1) := by decide +kernel
theorem d_Model_doesFit_10 : decode og_c_Model_doesFit 10 = .ok (.getfield 103, 3) := by decide +kernel
theorem d_Model_doesFit_13 : decode og_c_Model_doesFit 13 = .ok (.bipush 6, 2) := by decide +kernel
theorem d_Model_doesFit_15 : decode og_c_Model_doesFit 15 = .ok (.iload_n 2, 1) := by decide +kernel
theorem d_Model_doesFit_16 : decode og_c_Model_doesFit 16 = .ok (.iadd, 1) := by decide +kernel
theorem d_Model_doesFit_17 : decode og_c_Model_doesFit 17 = .ok (.iaload, 1) := by decide +kernel
theorem d_Model_doesFit_18 : decode og_c_Model_doesFit 18 = .ok (.if_icmp .gt 7, 3) := by decide +kernel
theorem d_Model_doesFit_21 : decode og_c_Model_doesFit 21 = .ok (.iconst 1, 1) := by decide +kernel
theorem d_Model_doesFit_22 : decode og_c_Model_doesFit 22 = .ok (.goto 4, 3) := by decide +kernel
theorem d_Model_doesFit_25 : decode og_c_Model_doesFit 25 = .ok (.iconst 0, 1) := by decide +kernel
theorem d_Model_doesFit_26 : decode og_c_Model_doesFit 26 = .ok (.ireturn, 1) := by decide +kernel
def m_Model_doesFit : og_Dn := og_den [17, 0, 0] 3 3 (og_retz (og_ec (og_cc og_rle (og_ald 16 (og_fix (fun _ => 1031) (og_loc 0)) (og_add (og_k 8) (og_loc 1))) (og_ald 12 (og_fix (fun _ => 1030) (og_loc 0)) (og_add (og_k 6) (og_loc 2))))))
set_option maxRecDepth 20000 in
theorem ok_Model_doesFit : og_MOK og_y_Model_doesFit og_c_Model_doesFit 3 3 1 [17, 0, 0] m_Model_doesFit := og_method (b := 0) (lt' := []) (by decide +kernel) (by decide) (by decide) (og_sretz (og_econd (b := 0) (og_ccn og_n_le (og_igt (tgt := 25) (og_iald (N := 16) (og_f_Model_talls (og_aload_n (i := 0) (t := 15) (j := 0) (by rfl) (by rfl) d_Model_doesFit_0) og_w1183 d_Model_doesFit_1) (by rfl) (og_iadd (og_bipush (by decide) d_Model_doesFit_4) (og_iload_n (i := 1) (j := 1) (by rfl) (by rfl) d_Model_doesFit_6) d_Model_doesFit_7) d_Model_doesFit_8) (og_iald (N := 12) (og_f_Model_longs (og_aload_n (i := 0) (t := 15) (j := 0) (by rfl) (by rfl) d_Model_doesFit_9) og_w1182 d_Model_doesFit_10) (by rfl) (og_iadd (og_bipush (by decide) d_Model_doesFit_13) (og_iload_n (i := 2) (j := 2) (by rfl) (by rfl) d_Model_doesFit_15) d_Model_doesFit_16) d_Model_doesFit_17) d_Model_doesFit_18 (by decide))) d_Model_doesFit_21 d_Model_doesFit_22 (by decide) d_Model_doesFit_25 (by rfl)) d_Model_doesFit_26) (fun h => by cases h)
abbrev og_c_Model_aliveMany : ByteArray := prog_14_method_42_code
abbrev og_y_Model_aliveMany : MethodName := ⟨"OpenGravesModel", "aliveMany", "()I"⟩
theorem v_Model_aliveMany {own : String} {idx dep : Nat} (h : 2 + 1 ≤ dep) : og_sV own idx og_y_Model_aliveMany og_c_Model_aliveMany 3 0 2 dep 13 0 := ⟨⟨12, og_sl_Model, og_T_Model, 102, rfl, by decide, rfl⟩, og_w1635, (og_memP (⟨"OpenGravesModel", "aliveMany", "()I"⟩, 102) (List.mem_of_getElem? (i := 87) (by decide +kernel))), og_w17, og_w1636, ⟨by decide +kernel, by decide +kernel, by decide +kernel⟩, h, by decide⟩
theorem d_Model_aliveMany_0 : decode og_c_Model_aliveMany 0 = .ok (.iconst 0, 1) := by decide +kernel
theorem d_Model_aliveMany_1 : decode og_c_Model_aliveMany 1 = .ok (.istore_n 1, 1) := by decide +kernel
theorem d_Model_aliveMany_2 : decode og_c_Model_aliveMany 2 = .ok (.iconst 0, 1) := by decide +kernel
theorem d_Model_aliveMany_3 : decode og_c_Model_aliveMany 3 = .ok (.istore_n 2, 1) := by decide +kernel
theorem d_Model_aliveMany_4 : decode og_c_Model_aliveMany 4 = .ok (.iload_n 2, 1) := by decide +kernel
theorem d_Model_aliveMany_5 : decode og_c_Model_aliveMany 5 = .ok (.aload_n 0, 1) := by decide +kernel
theorem d_Model_aliveMany_6 : decode og_c_Model_aliveMany 6 = .ok (.invokevirtual 381, 3) := by decide +kernel
theorem d_Model_aliveMany_9 : decode og_c_Model_aliveMany 9 = .ok (.if_icmp .ge 20, 3) := by decide +kernel
theorem d_Model_aliveMany_12 : decode og_c_Model_aliveMany 12 = .ok (.aload_n 0, 1) := by decide +kernel
theorem d_Model_aliveMany_13 : decode og_c_Model_aliveMany 13 = .ok (.iload_n 2, 1) := by decide +kernel
theorem d_Model_aliveMany_14 : decode og_c_Model_aliveMany 14 = .ok (.invokevirtual 393, 3) := by decide +kernel
theorem d_Model_aliveMany_17 : decode og_c_Model_aliveMany 17 = .ok (.ifCond .eq 6, 3) := by decide +kernel
theorem d_Model_aliveMany_20 : decode og_c_Model_aliveMany 20 = .ok (.iinc 1 1, 3) := by decide +kernel
theorem d_Model_aliveMany_23 : decode og_c_Model_aliveMany 23 = .ok (.iinc 2 1, 3) := by decide +kernel
theorem d_Model_aliveMany_26 : decode og_c_Model_aliveMany 26 = .ok (.goto (-22), 3) := by decide +kernel
theorem d_Model_aliveMany_29 : decode og_c_Model_aliveMany 29 = .ok (.iload_n 1, 1) := by decide +kernel
theorem d_Model_aliveMany_30 : decode og_c_Model_aliveMany 30 = .ok (.ireturn, 1) := by decide +kernel
def m_Model_aliveMany : og_Dn := og_den [17] 3 0 (og_seq (og_set 1 (og_k 0)) (og_cut (og_seq (og_set 2 (og_k 0)) (og_while (og_cc og_rlt (og_loc 2) (og_call m_Model_personMany [og_loc 0])) (og_if (og_cb (og_call m_Model_isAlive [og_loc 0, og_loc 2])) (og_inc 1 1) (og_skip)) (og_inc 2 1))) (og_ret (og_loc 1))))
set_option maxRecDepth 20000 in
theorem ok_Model_aliveMany : og_MOK og_y_Model_aliveMany og_c_Model_aliveMany 3 0 2 [17] m_Model_aliveMany := og_method (b := 0) (lt' := []) (by decide +kernel) (by decide) (by decide) (og_sseq (og_istore_n (i := 1) (lt' := [(0, 17), (1, 0)]) (og_iconst (by decide) d_Model_aliveMany_0) (by rfl) (by decide) (by decide) d_Model_aliveMany_1) (og_scut (og_sdrop (lt' := [(0, 17), (1, 0), (2, 0)]) (lt2 := [(0, 17), (1, 0)]) (og_sseq (og_istore_n (i := 2) (lt' := [(0, 17), (1, 0), (2, 0)]) (og_iconst (by decide) d_Model_aliveMany_2) (by rfl) (by decide) (by decide) d_Model_aliveMany_3) (og_swhile (T := 12) (F := 29) (cp0 := 23) (og_ccn og_n_lt (og_ige (tgt := 29) (og_iload_n (i := 2) (j := 2) (by rfl) (by rfl) d_Model_aliveMany_4) (og_callVi (og_acons (og_aload_n (i := 0) (t := 15) (j := 0) (by rfl) (by rfl) d_Model_aliveMany_5) (og_anil)) (by decide) ok_Model_personMany (v_Model_personMany (by decide)) og_w1637 d_Model_aliveMany_6) d_Model_aliveMany_9 (by decide))) (og_sif (T := 20) (F := 23) (og_cbeq (tgt := 23) (og_callVz (og_acons (og_aload_n (i := 0) (t := 15) (j := 0) (by rfl) (by rfl) d_Model_aliveMany_12) (og_acons (og_iload_n (i := 2) (j := 2) (by rfl) (by rfl) d_Model_aliveMany_13) (og_anil))) (by decide) ok_Model_isAlive (v_Model_isAlive (by decide)) og_w1641 d_Model_aliveMany_14) d_Model_aliveMany_17 (by decide)) (og_iinc (j := 1) (lt' := [(0, 17), (1, 0), (2, 0)]) (by rfl) (by decide) (by decide) d_Model_aliveMany_20) (og_sskip)) (og_gS (b' := 4) (og_iinc (j := 2) (lt' := [(0, 17), (1, 0), (2, 0)]) (by rfl) (by decide) (by decide) d_Model_aliveMany_23) d_Model_aliveMany_26 (by decide)))) (by decide)) (og_sreti (og_iload_n (i := 1) (j := 1) (by rfl) (by rfl) d_Model_aliveMany_29) d_Model_aliveMany_30))) (fun h => by cases h)
