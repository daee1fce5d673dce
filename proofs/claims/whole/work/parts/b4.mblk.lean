section
-- what makes the reference's object
theorem cn_cc {cc : ByteArray} {q : Nat × cn_B} {B : List (Nat × cn_B)} {pc : Nat} (hp : pc = q.1) (hk : cn_ckb cc q.2 q.1 = true) (ht : cn_cks cc B (cn_end q.2 q.1) = true) : cn_cks cc (q :: B) pc = true := by
  simp only [cn_cks, hk, ht, decide_eq_true hp, Bool.and_self]
abbrev cn_y_Model : MethodName := ⟨"OpenGravesModel", "<init>", "()V"⟩
abbrev cn_c_Model : ByteArray := prog_14_method_1_code
theorem cn_l_Model : cn_Cl og_R_Model og_T_Model 102 12 og_ty_Model := ⟨rfl, og_in_Model, og_tyok_Model, og_nm_Model⟩
def cn_0_Model : List Value := [.null, .int 0, .int 0, .int 0, .int 0, .int 0, .int 0, .int 0, .int 0, .null, .int 0, .null, .null, .null, .null, .null, .null, .null, .null, .null, .null, .null, .null, .null, .null, .null, .null, .null, .null, .null, .null, .null, .null, .null, .null, .null, .int 0, .null, .null, .null, .null, .null, .null, .null, .null, .null, .int 0, .int 0, .int 0, .null, .null, .int 0, .int 0, .int 0, .int 0, .null, .null, .null, .null, .null, .null, .int 0, .null, .null, .null, .int 0, .int 0, .long 0, .null, .null, .null, .null, .null, .null, .null, .null, .null, .null, .null, .null, .null, .null, .null, .null, .null, .null, .null, .null, .null, .null, .null, .int 0, .null, .int 0, .int 0, .int 0, .null, .int 0, .long 0, .int 0, .null, .int 0]
theorem cn_k_Model1_0 : cn_ckb cn_c_Model (0, 1600, [], 7, 0) 4 = true := by decide +kernel
def cn_B_Model1 : List (Nat × cn_B) := [(4, 0, 1600, [], 7, 0)]
theorem cn_q_Model1 : cn_cks cn_c_Model cn_B_Model1 4 = true := by
  unfold cn_B_Model1
  exact cn_cc (by decide +kernel) cn_k_Model1_0 (rfl)
def cn_F_Model1 (z : Nat) : List Value := cn_0_Model
def cn_D_Model1 (C : Nat → ClassId) : List va_E := []
theorem cn_F_Model1_len {z : Nat} : (cn_F_Model1 z).length = 102 := by simp only [cn_F_Model1, List.length_set, cn_fs_len] <;> rfl
theorem cn_D_Model1_len {C : Nat → ClassId} : (cn_D_Model1 C).length = 0 := by simp only [cn_D_Model1, List.length_append, cn_ds_len, List.length_nil] <;> rfl
theorem cn_k_Model2_0 : cn_ckb cn_c_Model (0, 6, [], 17, 9) 18 = true := by decide +kernel
theorem cn_k_Model2_1 : cn_ckb cn_c_Model (2, 5, [103, 114, 97, 118, 101], 20, 11) 26 = true := by decide +kernel
theorem cn_k_Model2_2 : cn_ckb cn_c_Model (2, 4, [108, 111, 110, 103], 24, 12) 58 = true := by decide +kernel
theorem cn_k_Model2_3 : cn_ckb cn_c_Model (2, 4, [100, 101, 101, 112], 27, 13) 85 = true := by decide +kernel
theorem cn_k_Model2_4 : cn_ckb cn_c_Model (2, 3, [100, 117, 101], 30, 14) 112 = true := by decide +kernel
theorem cn_k_Model2_5 : cn_ckb cn_c_Model (2, 6, [112, 101, 114, 115, 111, 110], 33, 15) 134 = true := by decide +kernel
theorem cn_k_Model2_6 : cn_ckb cn_c_Model (2, 4, [116, 97, 108, 108], 36, 16) 172 = true := by decide +kernel
theorem cn_k_Model2_7 : cn_ckb cn_c_Model (2, 3, [97, 103, 101], 39, 17) 199 = true := by decide +kernel
theorem cn_k_Model2_8 : cn_ckb cn_c_Model (2, 4, [119, 105, 108, 108], 42, 18) 221 = true := by decide +kernel
theorem cn_k_Model2_9 : cn_ckb cn_c_Model (2, 4, [100, 105, 101, 115], 45, 19) 248 = true := by decide +kernel
theorem cn_k_Model2_10 : cn_ckb cn_c_Model (2, 5, [99, 111, 109, 101, 115], 48, 20) 275 = true := by decide +kernel
theorem cn_k_Model2_11 : cn_ckb cn_c_Model (2, 5, [116, 97, 107, 101, 115], 51, 21) 307 = true := by decide +kernel
theorem cn_k_Model2_12 : cn_ckb cn_c_Model (2, 5, [104, 101, 97, 114, 116], 54, 22) 339 = true := by decide +kernel
theorem cn_k_Model2_13 : cn_ckb cn_c_Model (2, 4, [104, 97, 114, 109], 57, 23) 371 = true := by decide +kernel
theorem cn_k_Model2_14 : cn_ckb cn_c_Model (2, 5, [109, 111, 110, 116, 104], 60, 24) 398 = true := by decide +kernel
theorem cn_k_Model2_15 : cn_ckb cn_c_Model (2, 5, [97, 115, 107, 101, 100], 63, 25) 430 = true := by decide +kernel
theorem cn_k_Model2_16 : cn_ckb cn_c_Model (2, 5, [116, 97, 107, 101, 110], 66, 26) 462 = true := by decide +kernel
theorem cn_k_Model2_17 : cn_ckb cn_c_Model (2, 6, [110, 117, 109, 98, 101, 114], 69, 27) 494 = true := by decide +kernel
theorem cn_k_Model2_18 : cn_ckb cn_c_Model (2, 5, [97, 108, 105, 118, 101], 72, 28) 532 = true := by decide +kernel
theorem cn_k_Model2_19 : cn_ckb cn_c_Model (2, 4, [102, 105, 116, 115], 75, 29) 564 = true := by decide +kernel
theorem cn_k_Model2_20 : cn_ckb cn_c_Model (2, 2, [111, 114], 78, 30) 591 = true := by decide +kernel
theorem cn_k_Model2_21 : cn_ckb cn_c_Model (2, 3, [97, 110, 100], 81, 31) 608 = true := by decide +kernel
theorem cn_k_Model2_22 : cn_ckb cn_c_Model (2, 3, [110, 111, 116], 84, 32) 630 = true := by decide +kernel
theorem cn_k_Model2_23 : cn_ckb cn_c_Model (2, 3, [97, 108, 108], 87, 33) 652 = true := by decide +kernel
theorem cn_k_Model2_24 : cn_ckb cn_c_Model (2, 3, [109, 105, 110], 90, 34) 674 = true := by decide +kernel
theorem cn_k_Model2_25 : cn_ckb cn_c_Model (2, 3, [109, 97, 120], 93, 35) 696 = true := by decide +kernel
theorem cn_k_Model2_26 : cn_ckb cn_c_Model (0, 4, [], 96, 37) 718 = true := by decide +kernel
theorem cn_k_Model2_27 : cn_ckb cn_c_Model (1, 32, [], 99, 38) 725 = true := by decide +kernel
theorem cn_k_Model2_28 : cn_ckb cn_c_Model (0, 12, [], 103, 39) 733 = true := by decide +kernel
theorem cn_k_Model2_29 : cn_ckb cn_c_Model (0, 16, [], 106, 40) 741 = true := by decide +kernel
theorem cn_k_Model2_30 : cn_ckb cn_c_Model (0, 12, [], 109, 41) 749 = true := by decide +kernel
theorem cn_k_Model2_31 : cn_ckb cn_c_Model (0, 16, [], 112, 42) 757 = true := by decide +kernel
theorem cn_k_Model2_32 : cn_ckb cn_c_Model (0, 10, [-1, -1, -1, -1, -1, -1, -1, -1, -1, -1], 115, 43) 765 = true := by decide +kernel
theorem cn_k_Model2_33 : cn_ckb cn_c_Model (0, 10, [], 118, 44) 817 = true := by decide +kernel
theorem cn_k_Model2_34 : cn_ckb cn_c_Model (0, 3200, [], 121, 45) 825 = true := by decide +kernel
theorem cn_k_Model2_35 : cn_ckb cn_c_Model (0, 204, [], 124, 49) 834 = true := by decide +kernel
theorem cn_k_Model2_36 : cn_ckb cn_c_Model (0, 43, [], 127, 50) 843 = true := by decide +kernel
theorem cn_k_Model2_37 : cn_ckb cn_c_Model (0, 1792, [], 130, 55) 851 = true := by decide +kernel
theorem cn_k_Model2_38 : cn_ckb cn_c_Model (0, 1792, [], 133, 56) 860 = true := by decide +kernel
theorem cn_k_Model2_39 : cn_ckb cn_c_Model (0, 8, [], 136, 57) 869 = true := by decide +kernel
theorem cn_k_Model2_40 : cn_ckb cn_c_Model (0, 4, [], 139, 58) 877 = true := by decide +kernel
theorem cn_k_Model2_41 : cn_ckb cn_c_Model (0, 4, [], 142, 59) 884 = true := by decide +kernel
theorem cn_k_Model2_42 : cn_ckb cn_c_Model (0, 8, [], 145, 60) 891 = true := by decide +kernel
theorem cn_k_Model2_43 : cn_ckb cn_c_Model (0, 48, [], 148, 62) 899 = true := by decide +kernel
theorem cn_k_Model2_44 : cn_ckb cn_c_Model (0, 310, [], 151, 63) 907 = true := by decide +kernel
theorem cn_k_Model2_45 : cn_ckb cn_c_Model (0, 4080, [], 154, 64) 916 = true := by decide +kernel
def cn_B_Model2 : List (Nat × cn_B) := [(18, 0, 6, [], 17, 9), (26, 2, 5, [103, 114, 97, 118, 101], 20, 11), (58, 2, 4, [108, 111, 110, 103], 24, 12), (85, 2, 4, [100, 101, 101, 112], 27, 13), (112, 2, 3, [100, 117, 101], 30, 14), (134, 2, 6, [112, 101, 114, 115, 111, 110], 33, 15), (172, 2, 4, [116, 97, 108, 108], 36, 16), (199, 2, 3, [97, 103, 101], 39, 17), (221, 2, 4, [119, 105, 108, 108], 42, 18), (248, 2, 4, [100, 105, 101, 115], 45, 19), (275, 2, 5, [99, 111, 109, 101, 115], 48, 20), (307, 2, 5, [116, 97, 107, 101, 115], 51, 21), (339, 2, 5, [104, 101, 97, 114, 116], 54, 22), (371, 2, 4, [104, 97, 114, 109], 57, 23), (398, 2, 5, [109, 111, 110, 116, 104], 60, 24), (430, 2, 5, [97, 115, 107, 101, 100], 63, 25), (462, 2, 5, [116, 97, 107, 101, 110], 66, 26), (494, 2, 6, [110, 117, 109, 98, 101, 114], 69, 27), (532, 2, 5, [97, 108, 105, 118, 101], 72, 28), (564, 2, 4, [102, 105, 116, 115], 75, 29), (591, 2, 2, [111, 114], 78, 30), (608, 2, 3, [97, 110, 100], 81, 31), (630, 2, 3, [110, 111, 116], 84, 32), (652, 2, 3, [97, 108, 108], 87, 33), (674, 2, 3, [109, 105, 110], 90, 34), (696, 2, 3, [109, 97, 120], 93, 35), (718, 0, 4, [], 96, 37), (725, 1, 32, [], 99, 38), (733, 0, 12, [], 103, 39), (741, 0, 16, [], 106, 40), (749, 0, 12, [], 109, 41), (757, 0, 16, [], 112, 42), (765, 0, 10, [-1, -1, -1, -1, -1, -1, -1, -1, -1, -1], 115, 43), (817, 0, 10, [], 118, 44), (825, 0, 3200, [], 121, 45), (834, 0, 204, [], 124, 49), (843, 0, 43, [], 127, 50), (851, 0, 1792, [], 130, 55), (860, 0, 1792, [], 133, 56), (869, 0, 8, [], 136, 57), (877, 0, 4, [], 139, 58), (884, 0, 4, [], 142, 59), (891, 0, 8, [], 145, 60), (899, 0, 48, [], 148, 62), (907, 0, 310, [], 151, 63), (916, 0, 4080, [], 154, 64)]
theorem cn_q_Model2 : cn_cks cn_c_Model cn_B_Model2 18 = true := by
  unfold cn_B_Model2
  exact cn_cc (by decide +kernel) cn_k_Model2_0 (cn_cc (by decide +kernel) cn_k_Model2_1 (cn_cc (by decide +kernel) cn_k_Model2_2 (cn_cc (by decide +kernel) cn_k_Model2_3 (cn_cc (by decide +kernel) cn_k_Model2_4 (cn_cc (by decide +kernel) cn_k_Model2_5 (cn_cc (by decide +kernel) cn_k_Model2_6 (cn_cc (by decide +kernel) cn_k_Model2_7 (cn_cc (by decide +kernel) cn_k_Model2_8 (cn_cc (by decide +kernel) cn_k_Model2_9 (cn_cc (by decide +kernel) cn_k_Model2_10 (cn_cc (by decide +kernel) cn_k_Model2_11 (cn_cc (by decide +kernel) cn_k_Model2_12 (cn_cc (by decide +kernel) cn_k_Model2_13 (cn_cc (by decide +kernel) cn_k_Model2_14 (cn_cc (by decide +kernel) cn_k_Model2_15 (cn_cc (by decide +kernel) cn_k_Model2_16 (cn_cc (by decide +kernel) cn_k_Model2_17 (cn_cc (by decide +kernel) cn_k_Model2_18 (cn_cc (by decide +kernel) cn_k_Model2_19 (cn_cc (by decide +kernel) cn_k_Model2_20 (cn_cc (by decide +kernel) cn_k_Model2_21 (cn_cc (by decide +kernel) cn_k_Model2_22 (cn_cc (by decide +kernel) cn_k_Model2_23 (cn_cc (by decide +kernel) cn_k_Model2_24 (cn_cc (by decide +kernel) cn_k_Model2_25 (cn_cc (by decide +kernel) cn_k_Model2_26 (cn_cc (by decide +kernel) cn_k_Model2_27 (cn_cc (by decide +kernel) cn_k_Model2_28 (cn_cc (by decide +kernel) cn_k_Model2_29 (cn_cc (by decide +kernel) cn_k_Model2_30 (cn_cc (by decide +kernel) cn_k_Model2_31 (cn_cc (by decide +kernel) cn_k_Model2_32 (cn_cc (by decide +kernel) cn_k_Model2_33 (cn_cc (by decide +kernel) cn_k_Model2_34 (cn_cc (by decide +kernel) cn_k_Model2_35 (cn_cc (by decide +kernel) cn_k_Model2_36 (cn_cc (by decide +kernel) cn_k_Model2_37 (cn_cc (by decide +kernel) cn_k_Model2_38 (cn_cc (by decide +kernel) cn_k_Model2_39 (cn_cc (by decide +kernel) cn_k_Model2_40 (cn_cc (by decide +kernel) cn_k_Model2_41 (cn_cc (by decide +kernel) cn_k_Model2_42 (cn_cc (by decide +kernel) cn_k_Model2_43 (cn_cc (by decide +kernel) cn_k_Model2_44 (cn_cc (by decide +kernel) cn_k_Model2_45 (rfl))))))))))))))))))))))))))))))))))))))))))))))
def cn_F_Model2 (z : Nat) : List Value := (cn_fs z cn_B_Model1 (cn_F_Model1 z) 1).set 8 (.int (Int32.ofInt (-1)))
def cn_D_Model2 (C : Nat → ClassId) : List va_E := cn_D_Model1 C ++ cn_ds C cn_B_Model1
theorem cn_F_Model2_len {z : Nat} : (cn_F_Model2 z).length = 102 := by simp only [cn_F_Model2, List.length_set, cn_fs_len, cn_F_Model1_len] <;> rfl
theorem cn_D_Model2_len {C : Nat → ClassId} : (cn_D_Model2 C).length = 1 := by simp only [cn_D_Model2, List.length_append, cn_ds_len, List.length_nil, cn_D_Model1_len] <;> rfl
theorem cn_k_Model3_0 : cn_ckb cn_c_Model (2, 5, [102, 105, 114, 115, 116], 161, 68) 930 = true := by decide +kernel
theorem cn_k_Model3_1 : cn_ckb cn_c_Model (2, 4, [108, 97, 115, 116], 164, 69) 962 = true := by decide +kernel
theorem cn_k_Model3_2 : cn_ckb cn_c_Model (2, 5, [111, 102, 116, 101, 110], 167, 70) 989 = true := by decide +kernel
theorem cn_k_Model3_3 : cn_ckb cn_c_Model (2, 5, [116, 111, 116, 97, 108], 170, 71) 1021 = true := by decide +kernel
theorem cn_k_Model3_4 : cn_ckb cn_c_Model (2, 4, [109, 111, 115, 116], 173, 72) 1053 = true := by decide +kernel
theorem cn_k_Model3_5 : cn_ckb cn_c_Model (2, 5, [108, 101, 97, 115, 116], 176, 73) 1080 = true := by decide +kernel
theorem cn_k_Model3_6 : cn_ckb cn_c_Model (2, 3, [110, 111, 116], 179, 74) 1112 = true := by decide +kernel
theorem cn_k_Model3_7 : cn_ckb cn_c_Model (2, 3, [97, 110, 100], 182, 75) 1134 = true := by decide +kernel
theorem cn_k_Model3_8 : cn_ckb cn_c_Model (2, 2, [111, 114], 185, 76) 1156 = true := by decide +kernel
theorem cn_k_Model3_9 : cn_ckb cn_c_Model (2, 3, [97, 108, 108], 188, 77) 1173 = true := by decide +kernel
theorem cn_k_Model3_10 : cn_ckb cn_c_Model (2, 3, [109, 105, 110], 191, 78) 1195 = true := by decide +kernel
theorem cn_k_Model3_11 : cn_ckb cn_c_Model (2, 3, [109, 97, 120], 194, 79) 1217 = true := by decide +kernel
theorem cn_k_Model3_12 : cn_ckb cn_c_Model (2, 3, [97, 103, 101], 197, 80) 1239 = true := by decide +kernel
theorem cn_k_Model3_13 : cn_ckb cn_c_Model (2, 4, [116, 97, 108, 108], 200, 81) 1261 = true := by decide +kernel
theorem cn_k_Model3_14 : cn_ckb cn_c_Model (2, 4, [119, 105, 108, 108], 203, 82) 1288 = true := by decide +kernel
theorem cn_k_Model3_15 : cn_ckb cn_c_Model (2, 5, [109, 111, 110, 116, 104], 206, 83) 1315 = true := by decide +kernel
theorem cn_k_Model3_16 : cn_ckb cn_c_Model (2, 5, [97, 115, 107, 101, 100], 209, 84) 1347 = true := by decide +kernel
theorem cn_k_Model3_17 : cn_ckb cn_c_Model (2, 5, [116, 97, 107, 101, 110], 212, 85) 1379 = true := by decide +kernel
theorem cn_k_Model3_18 : cn_ckb cn_c_Model (2, 6, [110, 117, 109, 98, 101, 114], 215, 86) 1411 = true := by decide +kernel
theorem cn_k_Model3_19 : cn_ckb cn_c_Model (2, 5, [97, 108, 105, 118, 101], 218, 87) 1449 = true := by decide +kernel
theorem cn_k_Model3_20 : cn_ckb cn_c_Model (2, 4, [102, 105, 116, 115], 221, 88) 1481 = true := by decide +kernel
theorem cn_k_Model3_21 : cn_ckb cn_c_Model (2, 3, [100, 117, 101], 224, 89) 1508 = true := by decide +kernel
theorem cn_k_Model3_22 : cn_ckb cn_c_Model (0, 1700, [], 227, 90) 1530 = true := by decide +kernel
theorem cn_k_Model3_23 : cn_ckb cn_c_Model (0, 1700, [], 230, 92) 1539 = true := by decide +kernel
theorem cn_k_Model3_24 : cn_ckb cn_c_Model (1, 1700, [], 233, 96) 1548 = true := by decide +kernel
theorem cn_k_Model3_25 : cn_ckb cn_c_Model (0, 45, [], 236, 100) 1557 = true := by decide +kernel
def cn_B_Model3 : List (Nat × cn_B) := [(930, 2, 5, [102, 105, 114, 115, 116], 161, 68), (962, 2, 4, [108, 97, 115, 116], 164, 69), (989, 2, 5, [111, 102, 116, 101, 110], 167, 70), (1021, 2, 5, [116, 111, 116, 97, 108], 170, 71), (1053, 2, 4, [109, 111, 115, 116], 173, 72), (1080, 2, 5, [108, 101, 97, 115, 116], 176, 73), (1112, 2, 3, [110, 111, 116], 179, 74), (1134, 2, 3, [97, 110, 100], 182, 75), (1156, 2, 2, [111, 114], 185, 76), (1173, 2, 3, [97, 108, 108], 188, 77), (1195, 2, 3, [109, 105, 110], 191, 78), (1217, 2, 3, [109, 97, 120], 194, 79), (1239, 2, 3, [97, 103, 101], 197, 80), (1261, 2, 4, [116, 97, 108, 108], 200, 81), (1288, 2, 4, [119, 105, 108, 108], 203, 82), (1315, 2, 5, [109, 111, 110, 116, 104], 206, 83), (1347, 2, 5, [97, 115, 107, 101, 100], 209, 84), (1379, 2, 5, [116, 97, 107, 101, 110], 212, 85), (1411, 2, 6, [110, 117, 109, 98, 101, 114], 215, 86), (1449, 2, 5, [97, 108, 105, 118, 101], 218, 87), (1481, 2, 4, [102, 105, 116, 115], 221, 88), (1508, 2, 3, [100, 117, 101], 224, 89), (1530, 0, 1700, [], 227, 90), (1539, 0, 1700, [], 230, 92), (1548, 1, 1700, [], 233, 96), (1557, 0, 45, [], 236, 100)]
theorem cn_q_Model3 : cn_cks cn_c_Model cn_B_Model3 930 = true := by
  unfold cn_B_Model3
  exact cn_cc (by decide +kernel) cn_k_Model3_0 (cn_cc (by decide +kernel) cn_k_Model3_1 (cn_cc (by decide +kernel) cn_k_Model3_2 (cn_cc (by decide +kernel) cn_k_Model3_3 (cn_cc (by decide +kernel) cn_k_Model3_4 (cn_cc (by decide +kernel) cn_k_Model3_5 (cn_cc (by decide +kernel) cn_k_Model3_6 (cn_cc (by decide +kernel) cn_k_Model3_7 (cn_cc (by decide +kernel) cn_k_Model3_8 (cn_cc (by decide +kernel) cn_k_Model3_9 (cn_cc (by decide +kernel) cn_k_Model3_10 (cn_cc (by decide +kernel) cn_k_Model3_11 (cn_cc (by decide +kernel) cn_k_Model3_12 (cn_cc (by decide +kernel) cn_k_Model3_13 (cn_cc (by decide +kernel) cn_k_Model3_14 (cn_cc (by decide +kernel) cn_k_Model3_15 (cn_cc (by decide +kernel) cn_k_Model3_16 (cn_cc (by decide +kernel) cn_k_Model3_17 (cn_cc (by decide +kernel) cn_k_Model3_18 (cn_cc (by decide +kernel) cn_k_Model3_19 (cn_cc (by decide +kernel) cn_k_Model3_20 (cn_cc (by decide +kernel) cn_k_Model3_21 (cn_cc (by decide +kernel) cn_k_Model3_22 (cn_cc (by decide +kernel) cn_k_Model3_23 (cn_cc (by decide +kernel) cn_k_Model3_24 (cn_cc (by decide +kernel) cn_k_Model3_25 (rfl))))))))))))))))))))))))))
def cn_F_Model3 (z : Nat) : List Value := (cn_fs z cn_B_Model2 (cn_F_Model2 z) 2).set 67 (.long 1)
def cn_D_Model3 (C : Nat → ClassId) : List va_E := cn_D_Model2 C ++ cn_ds C cn_B_Model2
theorem cn_F_Model3_len {z : Nat} : (cn_F_Model3 z).length = 102 := by simp only [cn_F_Model3, List.length_set, cn_fs_len, cn_F_Model1_len, cn_F_Model2_len] <;> rfl
theorem cn_D_Model3_len {C : Nat → ClassId} : (cn_D_Model3 C).length = 47 := by simp only [cn_D_Model3, List.length_append, cn_ds_len, List.length_nil, cn_D_Model1_len, cn_D_Model2_len] <;> rfl
end
