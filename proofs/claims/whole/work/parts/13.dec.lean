def f_X8_begin (mem : hMem) : hRs := hv_put mem 4 3 0 (fun m1 => hv_b (f_X8_move m1) (fun r2 m3 => hv_ret 0 m3))
set_option maxRecDepth 100000 in
set_option maxHeartbeats 4000000 in
theorem c_X8_begin (mem : hMem) : hv_Met 3 0 0 1 yX8_begin cX8_begin 1 (none) (fun ad _ _ => [.ref (ad 4)]) mem (f_X8_begin mem) := by
  refine hv_start (by decide +kernel) (fun _ _ _ => Nat.le_of_ble_eq_true rfl) ?_
  intro X hc
  have hc : hv_C X cX8_begin 1 RX8 (none) 3 0 0 := hc
  show hv_R X 1 0 0 (hv_QX X 1 0 0) (f_X8_begin mem) mem [] [(0, .ref (hv_ad X 4))] [] 0
  unfold f_X8_begin
  refine hv_aload_n hc dX8_begin_0 rfl (hv_m 0 rfl) ?_
  refine hv_iconst hc dX8_begin_1 ?_
  refine hv_putI hc fp_X8_23 sh_o_4 rfl dX8_begin_2 (fun m1 => ?_)
  refine hv_aload_n hc dX8_begin_5 rfl (hv_m 0 rfl) ?_
  refine hv_callVv hc (c_X8_move m1) yv_X8_move tw_374 sh_o_4 rfl rfl rfl rfl (Nat.le_of_ble_eq_true rfl) (Nat.le_of_ble_eq_true rfl) (Nat.zero_le _) (Nat.zero_le _) dX8_begin_6 (fun r2 m3 => ?_)
  exact hv_vret hc dX8_begin_9
def f_X8_kind (mem : hMem) : hRs := hv_ret (mem 4 1) mem
set_option maxRecDepth 100000 in
set_option maxHeartbeats 4000000 in
theorem c_X8_kind (mem : hMem) : hv_Met 0 0 0 0 yX8_kind cX8_kind 1 (some FieldType.int) (fun ad _ _ => [.ref (ad 4)]) mem (f_X8_kind mem) := by
  refine hv_start (by decide +kernel) (fun _ _ _ => Nat.le_of_ble_eq_true rfl) ?_
  intro X hc
  have hc : hv_C X cX8_kind 1 RX8 (some FieldType.int) 0 0 0 := hc
  show hv_R X 1 0 0 (hv_QX X 0 0 0) (f_X8_kind mem) mem [] [(0, .ref (hv_ad X 4))] [] 0
  unfold f_X8_kind
  refine hv_aload_n hc dX8_kind_0 rfl (hv_m 0 rfl) ?_
  refine hv_getI hc fl_X8_13 sh_o_4 rfl dX8_kind_1 ?_
  exact hv_iret hc dX8_kind_4
def B_X8_isWord_28 (w1 : Nat) (R28 : Int → hMem → hRs) (x2 : Int) (mem : hMem) : hRs := hv_b (f_J0_length_8abf5 w1 mem) (fun r1 m2 => hv_lt x2 r1 (hv_b (f_X7_byteAt ((m2 4 2) + x2) m2) (fun r3 m4 => hv_b (f_J0_charAt_5068e w1 x2 m4) (fun r5 m6 => hv_eq r3 r5 (hv_set (x2 + 1) (fun y7 => R28 y7 m6)) (hv_zr 0 m6)))) (hv_zr 1 m2))
def L_X8_isWord_28 (w1 : Nat) : Nat → Int → hMem → hRs
  | 0 => fun _ _ => none
  | n + 1 => B_X8_isWord_28 w1 (L_X8_isWord_28 w1 n)
set_option maxRecDepth 100000 in
theorem gB_X8_isWord_28 {X : hv_X} (hc : hv_C X cX8_isWord 3 RX8 (some FieldType.boolean) 4 0 0) (w1 : Nat) (hw1 : w1 < 8) (R28 : Int → hMem → hRs) (hR28 : ∀ (x2 : Int) (mem : hMem), hv_R X 3 0 0 (hv_QX X 0 0 0) (R28 x2 mem) mem [] [(0, .ref (hv_ad X 4)), (1, .ref (hv_ak X w1)), (2, .int (hv_I x2))] [] 28) (x2 : Int) (mem : hMem) : hv_R X 3 0 0 (hv_QX X 0 0 0) (B_X8_isWord_28 w1 R28 x2 mem) mem [] [(0, .ref (hv_ad X 4)), (1, .ref (hv_ak X w1)), (2, .int (hv_I x2))] [] 28 := by
  unfold B_X8_isWord_28
  refine hv_iload_n hc dX8_isWord_28 rfl (hv_m 2 rfl) ?_
  refine hv_aload_n hc dX8_isWord_29 rfl (hv_m 1 rfl) ?_
  refine hv_callStr hc (c_J0_length_8abf5 w1 hw1 mem) yv_J0_length_8abf5 tw_420 hw1 rfl rfl rfl rfl (Nat.le_of_ble_eq_true rfl) (Nat.le_of_ble_eq_true rfl) (Nat.zero_le _) (Nat.zero_le _) dX8_isWord_30 (fun r1 m2 => ?_)
  refine hv_icmp_ge (tgt := 65) hc dX8_isWord_33 (by decide) ?_ ?_
  · refine hv_iconst hc dX8_isWord_65 ?_
    exact hv_zret hc dX8_isWord_66
  · refine hv_aload_n hc dX8_isWord_36 rfl (hv_m 0 rfl) ?_
    refine hv_getR hc fl_X8_7 sh_o_4 rfl dX8_isWord_37 ?_
    refine hv_aload_n hc dX8_isWord_40 rfl (hv_m 0 rfl) ?_
    refine hv_getI hc fl_X8_17 sh_o_4 rfl dX8_isWord_41 ?_
    refine hv_iload_n hc dX8_isWord_44 rfl (hv_m 2 rfl) ?_
    refine hv_iadd hc dX8_isWord_45 ?_
    refine hv_callVi hc (c_X7_byteAt ((m2 4 2) + x2) m2) yv_X7_byteAt tw_379 sh_o_1 rfl rfl rfl rfl (Nat.le_of_ble_eq_true rfl) (Nat.le_of_ble_eq_true rfl) (Nat.zero_le _) (Nat.zero_le _) dX8_isWord_46 (fun r3 m4 => ?_)
    refine hv_aload_n hc dX8_isWord_49 rfl (hv_m 1 rfl) ?_
    refine hv_iload_n hc dX8_isWord_50 rfl (hv_m 2 rfl) ?_
    refine hv_callStr hc (c_J0_charAt_5068e w1 hw1 x2 m4) yv_J0_charAt_5068e tw_430 hw1 rfl rfl rfl rfl (Nat.le_of_ble_eq_true rfl) (Nat.le_of_ble_eq_true rfl) (Nat.zero_le _) (Nat.zero_le _) dX8_isWord_51 (fun r5 m6 => ?_)
    refine hv_icmp_eq (tgt := 59) hc dX8_isWord_54 (by decide) ?_ ?_
    · refine hv_iinc_s (lvf := fun y7 => [(2, .int (hv_I y7)), (0, .ref (hv_ad X 4)), (1, .ref (hv_ak X w1))]) hc dX8_isWord_59 (by decide) (hv_m 2 rfl) (fun _ => rfl) (fun y7 => ?_)
      refine hv_goto (tgt := 28) hc dX8_isWord_62 (by decide) ?_
      exact hv_pick [1, 2, 0] rfl (hR28 y7 m6)
    · refine hv_iconst hc dX8_isWord_57 ?_
      exact hv_zret hc dX8_isWord_58
theorem g_X8_isWord_28 {X : hv_X} (hc : hv_C X cX8_isWord 3 RX8 (some FieldType.boolean) 4 0 0) (w1 : Nat) (hw1 : w1 < 8) : ∀ (n : Nat) (x2 : Int) (mem : hMem), hv_R X 3 0 0 (hv_QX X 0 0 0) (L_X8_isWord_28 w1 n x2 mem) mem [] [(0, .ref (hv_ad X 4)), (1, .ref (hv_ak X w1)), (2, .int (hv_I x2))] [] 28 := by
  intro n
  induction n with
  | zero => intros; exact hv_none
  | succ n ih => exact gB_X8_isWord_28 hc w1 hw1 _ ih
def f_X8_isWord (w1 : Nat) (mem : hMem) : hRs := hv_eq (mem 4 1) 1 (hv_b (f_J0_length_8abf5 w1 mem) (fun r1 m2 => hv_eq ((mem 4 3) - (mem 4 2)) r1 (L_X8_isWord_28 w1 hv_FU 0 m2) (hv_zr 0 m2))) (hv_zr 0 mem)
set_option maxRecDepth 100000 in
set_option maxHeartbeats 4000000 in
theorem c_X8_isWord (w1 : Nat) (hw1 : w1 < 8) (mem : hMem) : hv_Met 4 0 0 0 yX8_isWord cX8_isWord 3 (some FieldType.boolean) (fun ad ak _ => [.ref (ad 4), .ref (ak w1)]) mem (f_X8_isWord w1 mem) := by
  refine hv_start (by decide +kernel) (fun _ _ _ => Nat.le_of_ble_eq_true rfl) ?_
  intro X hc
  have hc : hv_C X cX8_isWord 3 RX8 (some FieldType.boolean) 4 0 0 := hc
  show hv_R X 3 0 0 (hv_QX X 0 0 0) (f_X8_isWord w1 mem) mem [] [(0, .ref (hv_ad X 4)), (1, .ref (hv_ak X w1))] [] 0
  unfold f_X8_isWord
  refine hv_aload_n hc dX8_isWord_0 rfl (hv_m 0 rfl) ?_
  refine hv_getI hc fl_X8_13 sh_o_4 rfl dX8_isWord_1 ?_
  refine hv_iconst hc dX8_isWord_4 ?_
  refine hv_icmp_ne (tgt := 24) hc dX8_isWord_5 (by decide) ?_ ?_
  · refine hv_iconst hc dX8_isWord_24 ?_
    exact hv_zret hc dX8_isWord_25
  · refine hv_aload_n hc dX8_isWord_8 rfl (hv_m 0 rfl) ?_
    refine hv_getI hc fl_X8_23 sh_o_4 rfl dX8_isWord_9 ?_
    refine hv_aload_n hc dX8_isWord_12 rfl (hv_m 0 rfl) ?_
    refine hv_getI hc fl_X8_17 sh_o_4 rfl dX8_isWord_13 ?_
    refine hv_isub hc dX8_isWord_16 ?_
    refine hv_aload_n hc dX8_isWord_17 rfl (hv_m 1 rfl) ?_
    refine hv_callStr hc (c_J0_length_8abf5 w1 hw1 mem) yv_J0_length_8abf5 tw_420 hw1 rfl rfl rfl rfl (Nat.le_of_ble_eq_true rfl) (Nat.le_of_ble_eq_true rfl) (Nat.zero_le _) (Nat.zero_le _) dX8_isWord_18 (fun r1 m2 => ?_)
    refine hv_icmp_eq (tgt := 26) hc dX8_isWord_21 (by decide) ?_ ?_
    · refine hv_iconst hc dX8_isWord_26 ?_
      refine hv_istore_n (lv' := [(2, .int (hv_I 0)), (0, .ref (hv_ad X 4)), (1, .ref (hv_ak X w1))]) hc dX8_isWord_27 rfl (by decide) rfl ?_
      exact hv_pick [1, 2, 0] rfl (g_X8_isWord_28 hc w1 hw1 hv_FU 0 m2)
    · refine hv_iconst hc dX8_isWord_24 ?_
      exact hv_zret hc dX8_isWord_25
def f_X8_start (mem : hMem) : hRs := hv_ret (mem 4 2) mem
set_option maxRecDepth 100000 in
set_option maxHeartbeats 4000000 in
theorem c_X8_start (mem : hMem) : hv_Met 0 0 0 0 yX8_start cX8_start 1 (some FieldType.int) (fun ad _ _ => [.ref (ad 4)]) mem (f_X8_start mem) := by
  refine hv_start (by decide +kernel) (fun _ _ _ => Nat.le_of_ble_eq_true rfl) ?_
  intro X hc
  have hc : hv_C X cX8_start 1 RX8 (some FieldType.int) 0 0 0 := hc
  show hv_R X 1 0 0 (hv_QX X 0 0 0) (f_X8_start mem) mem [] [(0, .ref (hv_ad X 4))] [] 0
  unfold f_X8_start
  refine hv_aload_n hc dX8_start_0 rfl (hv_m 0 rfl) ?_
  refine hv_getI hc fl_X8_17 sh_o_4 rfl dX8_start_1 ?_
  exact hv_iret hc dX8_start_4
def f_X4_blame (x1 x2 : Int) (mem : hMem) : hRs := hv_eq (mem 3 11) 0 (hv_put mem 3 11 x1 (fun m1 => hv_put m1 3 12 x2 (fun m2 => hv_ret 0 m2))) (hv_ret 0 mem)
set_option maxRecDepth 100000 in
set_option maxHeartbeats 4000000 in
theorem c_X4_blame (x1 x2 : Int) (mem : hMem) : hv_Met 0 0 0 1 yX4_blame cX4_blame 3 (none) (fun ad _ _ => [.ref (ad 3), .int (hv_I x1), .int (hv_I x2)]) mem (f_X4_blame x1 x2 mem) := by
  refine hv_start (by decide +kernel) (fun _ _ _ => Nat.le_of_ble_eq_true rfl) ?_
  intro X hc
  have hc : hv_C X cX4_blame 3 RX4 (none) 0 0 0 := hc
  show hv_R X 3 0 0 (hv_QX X 1 0 0) (f_X4_blame x1 x2 mem) mem [] [(0, .ref (hv_ad X 3)), (1, .int (hv_I x1)), (2, .int (hv_I x2))] [] 0
  unfold f_X4_blame
  refine hv_aload_n hc dX4_blame_0 rfl (hv_m 0 rfl) ?_
  refine hv_getI hc fl_X4_55 sh_o_3 rfl dX4_blame_1 ?_
  refine hv_if_ne (tgt := 17) hc dX4_blame_4 (by decide) ?_ ?_
  · exact hv_vret hc dX4_blame_17
  · refine hv_aload_n hc dX4_blame_7 rfl (hv_m 0 rfl) ?_
    refine hv_iload_n hc dX4_blame_8 rfl (hv_m 1 rfl) ?_
    refine hv_putI hc fp_X4_55 sh_o_3 rfl dX4_blame_9 (fun m1 => ?_)
    refine hv_aload_n hc dX4_blame_12 rfl (hv_m 0 rfl) ?_
    refine hv_iload_n hc dX4_blame_13 rfl (hv_m 2 rfl) ?_
    refine hv_putI hc fp_X4_39 sh_o_3 rfl dX4_blame_14 (fun m2 => ?_)
    exact hv_vret hc dX4_blame_17
def J_X4_passWord_23 (w1 : Nat) (mem : hMem) : hRs := hv_b (f_X8_move mem) (fun r1 m2 => hv_ret 0 m2)
set_option maxRecDepth 100000 in
theorem g_X4_passWord_23 {X : hv_X} (hc : hv_C X cX4_passWord 2 RX4 (none) 5 0 0) (w1 : Nat) (hw1 : w1 < 8) (mem : hMem) : hv_R X 2 0 0 (hv_QX X 1 0 0) (J_X4_passWord_23 w1 mem) mem [] [(0, .ref (hv_ad X 3))] [] 23 := by
  unfold J_X4_passWord_23
  refine hv_aload_n hc dX4_passWord_23 rfl (hv_m 0 rfl) ?_
  refine hv_getR hc fl_X4_35 sh_o_3 rfl dX4_passWord_24 ?_
  refine hv_callVv hc (c_X8_move mem) yv_X8_move tw_476 sh_o_4 rfl rfl rfl rfl (Nat.le_of_ble_eq_true rfl) (Nat.le_of_ble_eq_true rfl) (Nat.zero_le _) (Nat.zero_le _) dX4_passWord_27 (fun r1 m2 => ?_)
  exact hv_vret hc dX4_passWord_30
def f_X4_passWord (w1 : Nat) (mem : hMem) : hRs := hv_b (f_X8_isWord w1 mem) (fun r1 m2 => hv_eq r1 0 (hv_b (f_X8_start m2) (fun r3 m4 => hv_b (f_X4_blame 1 r3 m4) (fun r5 m6 => J_X4_passWord_23 w1 m6))) (J_X4_passWord_23 w1 m2))
set_option maxRecDepth 100000 in
set_option maxHeartbeats 4000000 in
theorem c_X4_passWord (w1 : Nat) (hw1 : w1 < 8) (mem : hMem) : hv_Met 5 0 0 1 yX4_passWord cX4_passWord 2 (none) (fun ad ak _ => [.ref (ad 3), .ref (ak w1)]) mem (f_X4_passWord w1 mem) := by
  refine hv_start (by decide +kernel) (fun _ _ _ => Nat.le_of_ble_eq_true rfl) ?_
  intro X hc
  have hc : hv_C X cX4_passWord 2 RX4 (none) 5 0 0 := hc
  show hv_R X 2 0 0 (hv_QX X 1 0 0) (f_X4_passWord w1 mem) mem [] [(0, .ref (hv_ad X 3)), (1, .ref (hv_ak X w1))] [] 0
  unfold f_X4_passWord
  refine hv_aload_n hc dX4_passWord_0 rfl (hv_m 0 rfl) ?_
  refine hv_getR hc fl_X4_35 sh_o_3 rfl dX4_passWord_1 ?_
  refine hv_aload_n hc dX4_passWord_4 rfl (hv_m 1 rfl) ?_
  refine hv_callVi hc (c_X8_isWord w1 hw1 mem) yv_X8_isWord tw_416 sh_o_4 rfl rfl rfl rfl (Nat.le_of_ble_eq_true rfl) (Nat.le_of_ble_eq_true rfl) (Nat.zero_le _) (Nat.zero_le _) dX4_passWord_5 (fun r1 m2 => ?_)
  refine hv_if_ne (tgt := 23) hc dX4_passWord_8 (by decide) ?_ ?_
  · exact hv_pick [0] rfl (g_X4_passWord_23 hc w1 hw1 m2)
  · refine hv_aload_n hc dX4_passWord_11 rfl (hv_m 0 rfl) ?_
    refine hv_iconst hc dX4_passWord_12 ?_
    refine hv_aload_n hc dX4_passWord_13 rfl (hv_m 0 rfl) ?_
    refine hv_getR hc fl_X4_35 sh_o_3 rfl dX4_passWord_14 ?_
    refine hv_callVi hc (c_X8_start m2) yv_X8_start tw_468 sh_o_4 rfl rfl rfl rfl (Nat.le_of_ble_eq_true rfl) (Nat.le_of_ble_eq_true rfl) (Nat.zero_le _) (Nat.zero_le _) dX4_passWord_17 (fun r3 m4 => ?_)
    refine hv_callVv hc (c_X4_blame 1 r3 m4) yv_X4_blame tw_472 sh_o_3 rfl rfl rfl rfl (Nat.le_of_ble_eq_true rfl) (Nat.le_of_ble_eq_true rfl) (Nat.zero_le _) (Nat.zero_le _) dX4_passWord_20 (fun r5 m6 => ?_)
    exact hv_pick [0] rfl (g_X4_passWord_23 hc w1 hw1 m6)
def f_X8_value (mem : hMem) : hRs := hv_ret (mem 4 4) mem
set_option maxRecDepth 100000 in
set_option maxHeartbeats 4000000 in
theorem c_X8_value (mem : hMem) : hv_Met 0 0 0 0 yX8_value cX8_value 1 (some FieldType.int) (fun ad _ _ => [.ref (ad 4)]) mem (f_X8_value mem) := by
  refine hv_start (by decide +kernel) (fun _ _ _ => Nat.le_of_ble_eq_true rfl) ?_
  intro X hc
  have hc : hv_C X cX8_value 1 RX8 (some FieldType.int) 0 0 0 := hc
  show hv_R X 1 0 0 (hv_QX X 0 0 0) (f_X8_value mem) mem [] [(0, .ref (hv_ad X 4))] [] 0
  unfold f_X8_value
  refine hv_aload_n hc dX8_value_0 rfl (hv_m 0 rfl) ?_
  refine hv_getI hc fl_X8_20 sh_o_4 rfl dX8_value_1 ?_
  exact hv_iret hc dX8_value_4
def J_X4_passNumber_60 (x3 : Int) (mem : hMem) : hRs := hv_b (f_X8_move mem) (fun r1 m2 => hv_ret x3 m2)
set_option maxRecDepth 100000 in
theorem g_X4_passNumber_60 {X : hv_X} (hc : hv_C X cX4_passNumber 4 RX4 (some FieldType.int) 3 0 0) (x3 : Int) (mem : hMem) : hv_R X 4 0 0 (hv_QX X 0 0 0) (J_X4_passNumber_60 x3 mem) mem [] [(0, .ref (hv_ad X 3)), (3, .int (hv_I x3))] [] 60 := by
  unfold J_X4_passNumber_60
  refine hv_aload_n hc dX4_passNumber_60 rfl (hv_m 0 rfl) ?_
  refine hv_getR hc fl_X4_35 sh_o_3 rfl dX4_passNumber_61 ?_
  refine hv_callVv hc (c_X8_move mem) yv_X8_move tw_476 sh_o_4 rfl rfl rfl rfl (Nat.le_of_ble_eq_true rfl) (Nat.le_of_ble_eq_true rfl) (Nat.zero_le _) (Nat.zero_le _) dX4_passNumber_64 (fun r1 m2 => ?_)
  refine hv_iload_n hc dX4_passNumber_67 rfl (hv_m 1 rfl) ?_
  exact hv_iret hc dX4_passNumber_68
def J_X4_passNumber_51 (x3 : Int) (mem : hMem) : hRs := hv_b (f_X4_blame 2 (mem 3 13) mem) (fun r1 m2 => J_X4_passNumber_60 x3 m2)
set_option maxRecDepth 100000 in
theorem g_X4_passNumber_51 {X : hv_X} (hc : hv_C X cX4_passNumber 4 RX4 (some FieldType.int) 3 0 0) (x3 : Int) (mem : hMem) : hv_R X 4 0 0 (hv_QX X 0 0 0) (J_X4_passNumber_51 x3 mem) mem [] [(0, .ref (hv_ad X 3)), (3, .int (hv_I x3))] [] 51 := by
  unfold J_X4_passNumber_51
  refine hv_aload_n hc dX4_passNumber_51 rfl (hv_m 0 rfl) ?_
  refine hv_iconst hc dX4_passNumber_52 ?_
  refine hv_aload_n hc dX4_passNumber_53 rfl (hv_m 0 rfl) ?_
  refine hv_getI hc fl_X4_131 sh_o_3 rfl dX4_passNumber_54 ?_
  refine hv_callVv hc (c_X4_blame 2 (mem 3 13) mem) yv_X4_blame tw_472 sh_o_3 rfl rfl rfl rfl (Nat.le_of_ble_eq_true rfl) (Nat.le_of_ble_eq_true rfl) (Nat.zero_le _) (Nat.zero_le _) dX4_passNumber_57 (fun r1 m2 => ?_)
  exact hv_pick [0, 1] rfl (g_X4_passNumber_60 hc x3 m2)
def f_X4_passNumber (x1 x2 : Int) (mem : hMem) : hRs := hv_b (f_X8_start mem) (fun r1 m2 => hv_put m2 3 13 r1 (fun m3 => hv_b (f_X8_kind m3) (fun r4 m5 => hv_eq r4 2 (hv_b (f_X8_value m5) (fun r6 m7 => hv_lt r6 x1 (J_X4_passNumber_51 r6 m7) (hv_lt x2 r6 (J_X4_passNumber_51 r6 m7) (J_X4_passNumber_60 r6 m7)))) (hv_b (f_X4_blame 1 (m5 3 13) m5) (fun r8 m9 => hv_ret ((-1)) m9)))))
set_option maxRecDepth 100000 in
set_option maxHeartbeats 4000000 in
theorem c_X4_passNumber (x1 x2 : Int) (mem : hMem) : hv_Met 3 0 0 0 yX4_passNumber cX4_passNumber 4 (some FieldType.int) (fun ad _ _ => [.ref (ad 3), .int (hv_I x1), .int (hv_I x2)]) mem (f_X4_passNumber x1 x2 mem) := by
  refine hv_start (by decide +kernel) (fun _ _ _ => Nat.le_of_ble_eq_true rfl) ?_
  intro X hc
  have hc : hv_C X cX4_passNumber 4 RX4 (some FieldType.int) 3 0 0 := hc
  show hv_R X 4 0 0 (hv_QX X 0 0 0) (f_X4_passNumber x1 x2 mem) mem [] [(0, .ref (hv_ad X 3)), (1, .int (hv_I x1)), (2, .int (hv_I x2))] [] 0
  unfold f_X4_passNumber
  refine hv_aload_n hc dX4_passNumber_0 rfl (hv_m 0 rfl) ?_
  refine hv_aload_n hc dX4_passNumber_1 rfl (hv_m 0 rfl) ?_
  refine hv_getR hc fl_X4_35 sh_o_3 rfl dX4_passNumber_2 ?_
  refine hv_callVi hc (c_X8_start mem) yv_X8_start tw_468 sh_o_4 rfl rfl rfl rfl (Nat.le_of_ble_eq_true rfl) (Nat.le_of_ble_eq_true rfl) (Nat.zero_le _) (Nat.zero_le _) dX4_passNumber_5 (fun r1 m2 => ?_)
  refine hv_putI hc fp_X4_131 sh_o_3 rfl dX4_passNumber_8 (fun m3 => ?_)
  refine hv_aload_n hc dX4_passNumber_11 rfl (hv_m 0 rfl) ?_
  refine hv_getR hc fl_X4_35 sh_o_3 rfl dX4_passNumber_12 ?_
  refine hv_callVi hc (c_X8_kind m3) yv_X8_kind tw_403 sh_o_4 rfl rfl rfl rfl (Nat.le_of_ble_eq_true rfl) (Nat.le_of_ble_eq_true rfl) (Nat.zero_le _) (Nat.zero_le _) dX4_passNumber_15 (fun r4 m5 => ?_)
  refine hv_iconst hc dX4_passNumber_18 ?_
  refine hv_icmp_eq (tgt := 33) hc dX4_passNumber_19 (by decide) ?_ ?_
  · refine hv_aload_n hc dX4_passNumber_33 rfl (hv_m 0 rfl) ?_
    refine hv_getR hc fl_X4_35 sh_o_3 rfl dX4_passNumber_34 ?_
    refine hv_callVi hc (c_X8_value m5) yv_X8_value tw_482 sh_o_4 rfl rfl rfl rfl (Nat.le_of_ble_eq_true rfl) (Nat.le_of_ble_eq_true rfl) (Nat.zero_le _) (Nat.zero_le _) dX4_passNumber_37 (fun r6 m7 => ?_)
    refine hv_istore_n (lv' := [(3, .int (hv_I r6)), (0, .ref (hv_ad X 3)), (1, .int (hv_I x1)), (2, .int (hv_I x2))]) hc dX4_passNumber_40 rfl (by decide) rfl ?_
    refine hv_iload_n hc dX4_passNumber_41 rfl (hv_m 0 rfl) ?_
    refine hv_iload_n hc dX4_passNumber_42 rfl (hv_m 2 rfl) ?_
    refine hv_icmp_lt (tgt := 51) hc dX4_passNumber_43 (by decide) ?_ ?_
    · exact hv_pick [1, 0] rfl (g_X4_passNumber_51 hc r6 m7)
    · refine hv_iload_n hc dX4_passNumber_46 rfl (hv_m 0 rfl) ?_
      refine hv_iload_n hc dX4_passNumber_47 rfl (hv_m 3 rfl) ?_
      refine hv_icmp_le (tgt := 60) hc dX4_passNumber_48 (by decide) ?_ ?_
      · exact hv_pick [1, 0] rfl (g_X4_passNumber_60 hc r6 m7)
      · exact hv_pick [1, 0] rfl (g_X4_passNumber_51 hc r6 m7)
  · refine hv_aload_n hc dX4_passNumber_22 rfl (hv_m 0 rfl) ?_
    refine hv_iconst hc dX4_passNumber_23 ?_
    refine hv_aload_n hc dX4_passNumber_24 rfl (hv_m 0 rfl) ?_
    refine hv_getI hc fl_X4_131 sh_o_3 rfl dX4_passNumber_25 ?_
    refine hv_callVv hc (c_X4_blame 1 (m5 3 13) m5) yv_X4_blame tw_472 sh_o_3 rfl rfl rfl rfl (Nat.le_of_ble_eq_true rfl) (Nat.le_of_ble_eq_true rfl) (Nat.zero_le _) (Nat.zero_le _) dX4_passNumber_28 (fun r8 m9 => ?_)
    refine hv_iconst hc dX4_passNumber_31 ?_
    exact hv_iret hc dX4_passNumber_32
def J_X4_passSign_23 (mem : hMem) : hRs := hv_b (f_X8_move mem) (fun r1 m2 => hv_ret 0 m2)
set_option maxRecDepth 100000 in
theorem g_X4_passSign_23 {X : hv_X} (hc : hv_C X cX4_passSign 1 RX4 (none) 3 0 0) (mem : hMem) : hv_R X 1 0 0 (hv_QX X 1 0 0) (J_X4_passSign_23 mem) mem [] [(0, .ref (hv_ad X 3))] [] 23 := by
  unfold J_X4_passSign_23
  refine hv_aload_n hc dX4_passSign_23 rfl (hv_m 0 rfl) ?_
  refine hv_getR hc fl_X4_35 sh_o_3 rfl dX4_passSign_24 ?_
  refine hv_callVv hc (c_X8_move mem) yv_X8_move tw_476 sh_o_4 rfl rfl rfl rfl (Nat.le_of_ble_eq_true rfl) (Nat.le_of_ble_eq_true rfl) (Nat.zero_le _) (Nat.zero_le _) dX4_passSign_27 (fun r1 m2 => ?_)
  exact hv_vret hc dX4_passSign_30
def f_X4_passSign (mem : hMem) : hRs := hv_b (f_X8_kind mem) (fun r1 m2 => hv_eq r1 3 (J_X4_passSign_23 m2) (hv_b (f_X8_start m2) (fun r3 m4 => hv_b (f_X4_blame 1 r3 m4) (fun r5 m6 => J_X4_passSign_23 m6))))
set_option maxRecDepth 100000 in
set_option maxHeartbeats 4000000 in
theorem c_X4_passSign (mem : hMem) : hv_Met 3 0 0 1 yX4_passSign cX4_passSign 1 (none) (fun ad _ _ => [.ref (ad 3)]) mem (f_X4_passSign mem) := by
  refine hv_start (by decide +kernel) (fun _ _ _ => Nat.le_of_ble_eq_true rfl) ?_
  intro X hc
  have hc : hv_C X cX4_passSign 1 RX4 (none) 3 0 0 := hc
  show hv_R X 1 0 0 (hv_QX X 1 0 0) (f_X4_passSign mem) mem [] [(0, .ref (hv_ad X 3))] [] 0
  unfold f_X4_passSign
  refine hv_aload_n hc dX4_passSign_0 rfl (hv_m 0 rfl) ?_
  refine hv_getR hc fl_X4_35 sh_o_3 rfl dX4_passSign_1 ?_
  refine hv_callVi hc (c_X8_kind mem) yv_X8_kind tw_403 sh_o_4 rfl rfl rfl rfl (Nat.le_of_ble_eq_true rfl) (Nat.le_of_ble_eq_true rfl) (Nat.zero_le _) (Nat.zero_le _) dX4_passSign_4 (fun r1 m2 => ?_)
  refine hv_iconst hc dX4_passSign_7 ?_
  refine hv_icmp_eq (tgt := 23) hc dX4_passSign_8 (by decide) ?_ ?_
  · exact hv_pick [0] rfl (g_X4_passSign_23 hc m2)
  · refine hv_aload_n hc dX4_passSign_11 rfl (hv_m 0 rfl) ?_
    refine hv_iconst hc dX4_passSign_12 ?_
    refine hv_aload_n hc dX4_passSign_13 rfl (hv_m 0 rfl) ?_
    refine hv_getR hc fl_X4_35 sh_o_3 rfl dX4_passSign_14 ?_
    refine hv_callVi hc (c_X8_start m2) yv_X8_start tw_468 sh_o_4 rfl rfl rfl rfl (Nat.le_of_ble_eq_true rfl) (Nat.le_of_ble_eq_true rfl) (Nat.zero_le _) (Nat.zero_le _) dX4_passSign_17 (fun r3 m4 => ?_)
    refine hv_callVv hc (c_X4_blame 1 r3 m4) yv_X4_blame tw_472 sh_o_3 rfl rfl rfl rfl (Nat.le_of_ble_eq_true rfl) (Nat.le_of_ble_eq_true rfl) (Nat.zero_le _) (Nat.zero_le _) dX4_passSign_20 (fun r5 m6 => ?_)
    exact hv_pick [0] rfl (g_X4_passSign_23 hc m6)
def f_X4_readPlan (mem : hMem) : hRs := hv_b (f_X4_passWord 0 mem) (fun r1 m2 => hv_b (f_X4_passWord 1 m2) (fun r3 m4 => hv_b (f_X4_passNumber 0 1 m4) (fun r5 m6 => hv_put m6 3 7 r5 (fun m7 => hv_b (f_X4_passWord 2 m7) (fun r8 m9 => hv_b (f_X4_passNumber 1 4 m9) (fun r10 m11 => hv_put m11 3 8 r10 (fun m12 => hv_b (f_X4_passSign m12) (fun r13 m14 => hv_ret 0 m14))))))))
set_option maxRecDepth 100000 in
set_option maxHeartbeats 4000000 in
theorem c_X4_readPlan (mem : hMem) : hv_Met 6 0 0 1 yX4_readPlan cX4_readPlan 1 (none) (fun ad _ _ => [.ref (ad 3)]) mem (f_X4_readPlan mem) := by
  refine hv_start (by decide +kernel) (fun _ _ _ => Nat.le_of_ble_eq_true rfl) ?_
  intro X hc
  have hc : hv_C X cX4_readPlan 1 RX4 (none) 6 0 0 := hc
  show hv_R X 1 0 0 (hv_QX X 1 0 0) (f_X4_readPlan mem) mem [] [(0, .ref (hv_ad X 3))] [] 0
  unfold f_X4_readPlan
  refine hv_aload_n hc dX4_readPlan_0 rfl (hv_m 0 rfl) ?_
  refine hv_ldcS (i := 0) hc (List.mem_of_getElem? (i := 0) rfl) dX4_readPlan_1 ?_
  refine hv_callVv hc (c_X4_passWord 0 (by decide) mem) yv_X4_passWord tw_412 sh_o_3 rfl rfl rfl rfl (Nat.le_of_ble_eq_true rfl) (Nat.le_of_ble_eq_true rfl) (Nat.zero_le _) (Nat.zero_le _) dX4_readPlan_3 (fun r1 m2 => ?_)
  refine hv_aload_n hc dX4_readPlan_6 rfl (hv_m 0 rfl) ?_
  refine hv_ldcS (i := 1) hc (List.mem_of_getElem? (i := 1) rfl) dX4_readPlan_7 ?_
  refine hv_callVv hc (c_X4_passWord 1 (by decide) m2) yv_X4_passWord tw_412 sh_o_3 rfl rfl rfl rfl (Nat.le_of_ble_eq_true rfl) (Nat.le_of_ble_eq_true rfl) (Nat.zero_le _) (Nat.zero_le _) dX4_readPlan_9 (fun r3 m4 => ?_)
  refine hv_aload_n hc dX4_readPlan_12 rfl (hv_m 0 rfl) ?_
  refine hv_aload_n hc dX4_readPlan_13 rfl (hv_m 0 rfl) ?_
  refine hv_iconst hc dX4_readPlan_14 ?_
  refine hv_iconst hc dX4_readPlan_15 ?_
  refine hv_callVi hc (c_X4_passNumber 0 1 m4) yv_X4_passNumber tw_478 sh_o_3 rfl rfl rfl rfl (Nat.le_of_ble_eq_true rfl) (Nat.le_of_ble_eq_true rfl) (Nat.zero_le _) (Nat.zero_le _) dX4_readPlan_16 (fun r5 m6 => ?_)
  refine hv_putI hc fp_X4_43 sh_o_3 rfl dX4_readPlan_19 (fun m7 => ?_)
  refine hv_aload_n hc dX4_readPlan_22 rfl (hv_m 0 rfl) ?_
  refine hv_ldcS (i := 2) hc (List.mem_of_getElem? (i := 2) rfl) dX4_readPlan_23 ?_
  refine hv_callVv hc (c_X4_passWord 2 (by decide) m7) yv_X4_passWord tw_412 sh_o_3 rfl rfl rfl rfl (Nat.le_of_ble_eq_true rfl) (Nat.le_of_ble_eq_true rfl) (Nat.zero_le _) (Nat.zero_le _) dX4_readPlan_25 (fun r8 m9 => ?_)
  refine hv_aload_n hc dX4_readPlan_28 rfl (hv_m 0 rfl) ?_
  refine hv_aload_n hc dX4_readPlan_29 rfl (hv_m 0 rfl) ?_
  refine hv_iconst hc dX4_readPlan_30 ?_
  refine hv_iconst hc dX4_readPlan_31 ?_
  refine hv_callVi hc (c_X4_passNumber 1 4 m9) yv_X4_passNumber tw_478 sh_o_3 rfl rfl rfl rfl (Nat.le_of_ble_eq_true rfl) (Nat.le_of_ble_eq_true rfl) (Nat.zero_le _) (Nat.zero_le _) dX4_readPlan_32 (fun r10 m11 => ?_)
  refine hv_putI hc fp_X4_46 sh_o_3 rfl dX4_readPlan_35 (fun m12 => ?_)
  refine hv_aload_n hc dX4_readPlan_38 rfl (hv_m 0 rfl) ?_
  refine hv_callVv hc (c_X4_passSign m12) yv_X4_passSign tw_487 sh_o_3 rfl rfl rfl rfl (Nat.le_of_ble_eq_true rfl) (Nat.le_of_ble_eq_true rfl) (Nat.zero_le _) (Nat.zero_le _) dX4_readPlan_39 (fun r13 m14 => ?_)
  exact hv_vret hc dX4_readPlan_42
def f_X4_howOfWord (mem : hMem) : hRs := hv_b (f_X8_isWord 3 mem) (fun r1 m2 => hv_eq r1 0 (hv_b (f_X8_isWord 4 m2) (fun r3 m4 => hv_eq r3 0 (hv_b (f_X8_isWord 5 m4) (fun r5 m6 => hv_eq r5 0 (hv_b (f_X8_isWord 6 m6) (fun r7 m8 => hv_eq r7 0 (hv_ret ((-1)) m8) (hv_ret 3 m8))) (hv_ret 2 m6))) (hv_ret 1 m4))) (hv_ret 0 m2))
set_option maxRecDepth 100000 in
set_option maxHeartbeats 4000000 in
theorem c_X4_howOfWord (mem : hMem) : hv_Met 5 0 0 0 yX4_howOfWord cX4_howOfWord 1 (some FieldType.int) (fun ad _ _ => [.ref (ad 3)]) mem (f_X4_howOfWord mem) := by
  refine hv_start (by decide +kernel) (fun _ _ _ => Nat.le_of_ble_eq_true rfl) ?_
  intro X hc
  have hc : hv_C X cX4_howOfWord 1 RX4 (some FieldType.int) 5 0 0 := hc
  show hv_R X 1 0 0 (hv_QX X 0 0 0) (f_X4_howOfWord mem) mem [] [(0, .ref (hv_ad X 3))] [] 0
  unfold f_X4_howOfWord
  refine hv_aload_n hc dX4_howOfWord_0 rfl (hv_m 0 rfl) ?_
  refine hv_getR hc fl_X4_35 sh_o_3 rfl dX4_howOfWord_1 ?_
  refine hv_ldcS (i := 3) hc (List.mem_of_getElem? (i := 3) rfl) dX4_howOfWord_4 ?_
  refine hv_callVi hc (c_X8_isWord 3 (by decide) mem) yv_X8_isWord tw_416 sh_o_4 rfl rfl rfl rfl (Nat.le_of_ble_eq_true rfl) (Nat.le_of_ble_eq_true rfl) (Nat.zero_le _) (Nat.zero_le _) dX4_howOfWord_6 (fun r1 m2 => ?_)
  refine hv_if_eq (tgt := 14) hc dX4_howOfWord_9 (by decide) ?_ ?_
  · refine hv_aload_n hc dX4_howOfWord_14 rfl (hv_m 0 rfl) ?_
    refine hv_getR hc fl_X4_35 sh_o_3 rfl dX4_howOfWord_15 ?_
    refine hv_ldcS (i := 4) hc (List.mem_of_getElem? (i := 4) rfl) dX4_howOfWord_18 ?_
    refine hv_callVi hc (c_X8_isWord 4 (by decide) m2) yv_X8_isWord tw_416 sh_o_4 rfl rfl rfl rfl (Nat.le_of_ble_eq_true rfl) (Nat.le_of_ble_eq_true rfl) (Nat.zero_le _) (Nat.zero_le _) dX4_howOfWord_20 (fun r3 m4 => ?_)
    refine hv_if_eq (tgt := 28) hc dX4_howOfWord_23 (by decide) ?_ ?_
    · refine hv_aload_n hc dX4_howOfWord_28 rfl (hv_m 0 rfl) ?_
      refine hv_getR hc fl_X4_35 sh_o_3 rfl dX4_howOfWord_29 ?_
      refine hv_ldcS (i := 5) hc (List.mem_of_getElem? (i := 5) rfl) dX4_howOfWord_32 ?_
      refine hv_callVi hc (c_X8_isWord 5 (by decide) m4) yv_X8_isWord tw_416 sh_o_4 rfl rfl rfl rfl (Nat.le_of_ble_eq_true rfl) (Nat.le_of_ble_eq_true rfl) (Nat.zero_le _) (Nat.zero_le _) dX4_howOfWord_34 (fun r5 m6 => ?_)
      refine hv_if_eq (tgt := 42) hc dX4_howOfWord_37 (by decide) ?_ ?_
      · refine hv_aload_n hc dX4_howOfWord_42 rfl (hv_m 0 rfl) ?_
        refine hv_getR hc fl_X4_35 sh_o_3 rfl dX4_howOfWord_43 ?_
        refine hv_ldcS (i := 6) hc (List.mem_of_getElem? (i := 6) rfl) dX4_howOfWord_46 ?_
        refine hv_callVi hc (c_X8_isWord 6 (by decide) m6) yv_X8_isWord tw_416 sh_o_4 rfl rfl rfl rfl (Nat.le_of_ble_eq_true rfl) (Nat.le_of_ble_eq_true rfl) (Nat.zero_le _) (Nat.zero_le _) dX4_howOfWord_48 (fun r7 m8 => ?_)
        refine hv_if_eq (tgt := 58) hc dX4_howOfWord_51 (by decide) ?_ ?_
        · refine hv_iconst hc dX4_howOfWord_58 ?_
          exact hv_iret hc dX4_howOfWord_59
        · refine hv_iconst hc dX4_howOfWord_54 ?_
          refine hv_goto (tgt := 59) hc dX4_howOfWord_55 (by decide) ?_
          exact hv_iret hc dX4_howOfWord_59
      · refine hv_iconst hc dX4_howOfWord_40 ?_
        exact hv_iret hc dX4_howOfWord_41
    · refine hv_iconst hc dX4_howOfWord_26 ?_
      exact hv_iret hc dX4_howOfWord_27
  · refine hv_iconst hc dX4_howOfWord_12 ?_
    exact hv_iret hc dX4_howOfWord_13
def f_X4_keep (x1 x2 x3 x4 : Int) (mem : hMem) : hRs := hv_b (f_X10_set 5 20 (mem 3 10) x1 mem) (fun r1 m2 => hv_b (f_X10_set 6 20 (m2 3 10) x2 m2) (fun r3 m4 => hv_b (f_X10_set 7 20 (m4 3 10) x3 m4) (fun r5 m6 => hv_b (f_X10_set 10 20 (m6 3 10) x4 m6) (fun r7 m8 => hv_put m8 3 10 ((m8 3 10) + 1) (fun m9 => hv_ret 0 m9)))))
set_option maxRecDepth 100000 in
set_option maxHeartbeats 4000000 in
theorem c_X4_keep (x1 x2 x3 x4 : Int) (mem : hMem) : hv_Met 1 0 0 1 yX4_keep cX4_keep 5 (none) (fun ad _ _ => [.ref (ad 3), .int (hv_I x1), .int (hv_I x2), .int (hv_I x3), .int (hv_I x4)]) mem (f_X4_keep x1 x2 x3 x4 mem) := by
  refine hv_start (by decide +kernel) (fun _ _ _ => Nat.le_of_ble_eq_true rfl) ?_
  intro X hc
  have hc : hv_C X cX4_keep 5 RX4 (none) 1 0 0 := hc
  show hv_R X 5 0 0 (hv_QX X 1 0 0) (f_X4_keep x1 x2 x3 x4 mem) mem [] [(0, .ref (hv_ad X 3)), (1, .int (hv_I x1)), (2, .int (hv_I x2)), (3, .int (hv_I x3)), (4, .int (hv_I x4))] [] 0
  unfold f_X4_keep
  refine hv_aload_n hc dX4_keep_0 rfl (hv_m 0 rfl) ?_
  refine hv_getR hc fl_X4_9 sh_o_3 rfl dX4_keep_1 ?_
  refine hv_aload_n hc dX4_keep_4 rfl (hv_m 0 rfl) ?_
  refine hv_getI hc fl_X4_52 sh_o_3 rfl dX4_keep_5 ?_
  refine hv_iload_n hc dX4_keep_8 rfl (hv_m 1 rfl) ?_
  refine hv_callSNv hc (c_X10_set 5 20 sh_a_5 (Nat.le_of_ble_eq_true rfl) (mem 3 10) x1 mem) ys_X10_set nl_8 rfl rfl rfl (Nat.le_of_ble_eq_true rfl) (Nat.le_of_ble_eq_true rfl) (Nat.zero_le _) (Nat.zero_le _) dX4_keep_9 (fun r1 m2 => ?_)
  refine hv_aload_n hc dX4_keep_12 rfl (hv_m 0 rfl) ?_
  refine hv_getR hc fl_X4_15 sh_o_3 rfl dX4_keep_13 ?_
  refine hv_aload_n hc dX4_keep_16 rfl (hv_m 0 rfl) ?_
  refine hv_getI hc fl_X4_52 sh_o_3 rfl dX4_keep_17 ?_
  refine hv_iload_n hc dX4_keep_20 rfl (hv_m 2 rfl) ?_
  refine hv_callSNv hc (c_X10_set 6 20 sh_a_6 (Nat.le_of_ble_eq_true rfl) (m2 3 10) x2 m2) ys_X10_set nl_8 rfl rfl rfl (Nat.le_of_ble_eq_true rfl) (Nat.le_of_ble_eq_true rfl) (Nat.zero_le _) (Nat.zero_le _) dX4_keep_21 (fun r3 m4 => ?_)
  refine hv_aload_n hc dX4_keep_24 rfl (hv_m 0 rfl) ?_
  refine hv_getR hc fl_X4_18 sh_o_3 rfl dX4_keep_25 ?_
  refine hv_aload_n hc dX4_keep_28 rfl (hv_m 0 rfl) ?_
  refine hv_getI hc fl_X4_52 sh_o_3 rfl dX4_keep_29 ?_
  refine hv_iload_n hc dX4_keep_32 rfl (hv_m 3 rfl) ?_
  refine hv_callSNv hc (c_X10_set 7 20 sh_a_7 (Nat.le_of_ble_eq_true rfl) (m4 3 10) x3 m4) ys_X10_set nl_8 rfl rfl rfl (Nat.le_of_ble_eq_true rfl) (Nat.le_of_ble_eq_true rfl) (Nat.zero_le _) (Nat.zero_le _) dX4_keep_33 (fun r5 m6 => ?_)
  refine hv_aload_n hc dX4_keep_36 rfl (hv_m 0 rfl) ?_
  refine hv_getR hc fl_X4_27 sh_o_3 rfl dX4_keep_37 ?_
  refine hv_aload_n hc dX4_keep_40 rfl (hv_m 0 rfl) ?_
  refine hv_getI hc fl_X4_52 sh_o_3 rfl dX4_keep_41 ?_
  refine hv_iload hc dX4_keep_44 (hv_m 4 rfl) ?_
  refine hv_callSNv hc (c_X10_set 10 20 sh_a_10 (Nat.le_of_ble_eq_true rfl) (m6 3 10) x4 m6) ys_X10_set nl_8 rfl rfl rfl (Nat.le_of_ble_eq_true rfl) (Nat.le_of_ble_eq_true rfl) (Nat.zero_le _) (Nat.zero_le _) dX4_keep_46 (fun r7 m8 => ?_)
  refine hv_aload_n hc dX4_keep_49 rfl (hv_m 0 rfl) ?_
  refine hv_dup hc dX4_keep_50 rfl ?_
  refine hv_getI hc fl_X4_52 sh_o_3 rfl dX4_keep_51 ?_
  refine hv_iconst hc dX4_keep_54 ?_
  refine hv_iadd hc dX4_keep_55 ?_
  refine hv_putI hc fp_X4_52 sh_o_3 rfl dX4_keep_56 (fun m9 => ?_)
  exact hv_vret hc dX4_keep_59
def J_X4_readPut_34 (x1 : Int) (mem : hMem) : hRs := hv_b (f_X4_passNumber 0 999 mem) (fun r1 m2 => hv_b (f_X4_passWord 7 m2) (fun r3 m4 => hv_b (f_X4_passNumber 1 99 m4) (fun r5 m6 => hv_b (f_X4_passSign m6) (fun r7 m8 => hv_b (f_X10_set 8 20 (m8 3 10) r1 m8) (fun r9 m10 => hv_b (f_X10_set 9 20 (m10 3 10) r5 m10) (fun r11 m12 => hv_b (f_X10_at 10 20 x1 m12) (fun r13 m14 => hv_b (f_X4_keep 1 x1 ((-1)) (hv_wr (r13 + 1)) m14) (fun r15 m16 => hv_ret 0 m16))))))))
set_option maxRecDepth 100000 in
theorem g_X4_readPut_34 {X : hv_X} (hc : hv_C X cX4_readPut 4 RX4 (none) 6 0 0) (x1 : Int) (mem : hMem) : hv_R X 4 0 0 (hv_QX X 1 0 0) (J_X4_readPut_34 x1 mem) mem [] [(0, .ref (hv_ad X 3)), (1, .int (hv_I x1))] [] 34 := by
  unfold J_X4_readPut_34
  refine hv_aload_n hc dX4_readPut_34 rfl (hv_m 0 rfl) ?_
  refine hv_iconst hc dX4_readPut_35 ?_
  refine hv_sipush hc dX4_readPut_36 (by decide) ?_
  refine hv_callVi hc (c_X4_passNumber 0 999 mem) yv_X4_passNumber tw_478 sh_o_3 rfl rfl rfl rfl (Nat.le_of_ble_eq_true rfl) (Nat.le_of_ble_eq_true rfl) (Nat.zero_le _) (Nat.zero_le _) dX4_readPut_39 (fun r1 m2 => ?_)
  refine hv_istore_n (lv' := [(2, .int (hv_I r1)), (0, .ref (hv_ad X 3)), (1, .int (hv_I x1))]) hc dX4_readPut_42 rfl (by decide) rfl ?_
  refine hv_aload_n hc dX4_readPut_43 rfl (hv_m 1 rfl) ?_
  refine hv_ldcS (i := 7) hc (List.mem_of_getElem? (i := 7) rfl) dX4_readPut_44 ?_
  refine hv_callVv hc (c_X4_passWord 7 (by decide) m2) yv_X4_passWord tw_412 sh_o_3 rfl rfl rfl rfl (Nat.le_of_ble_eq_true rfl) (Nat.le_of_ble_eq_true rfl) (Nat.zero_le _) (Nat.zero_le _) dX4_readPut_46 (fun r3 m4 => ?_)
  refine hv_aload_n hc dX4_readPut_49 rfl (hv_m 1 rfl) ?_
  refine hv_iconst hc dX4_readPut_50 ?_
  refine hv_bipush hc dX4_readPut_51 (by decide) ?_
  refine hv_callVi hc (c_X4_passNumber 1 99 m4) yv_X4_passNumber tw_478 sh_o_3 rfl rfl rfl rfl (Nat.le_of_ble_eq_true rfl) (Nat.le_of_ble_eq_true rfl) (Nat.zero_le _) (Nat.zero_le _) dX4_readPut_53 (fun r5 m6 => ?_)
  refine hv_istore_n (lv' := [(3, .int (hv_I r5)), (2, .int (hv_I r1)), (0, .ref (hv_ad X 3)), (1, .int (hv_I x1))]) hc dX4_readPut_56 rfl (by decide) rfl ?_
  refine hv_aload_n hc dX4_readPut_57 rfl (hv_m 2 rfl) ?_
  refine hv_callVv hc (c_X4_passSign m6) yv_X4_passSign tw_487 sh_o_3 rfl rfl rfl rfl (Nat.le_of_ble_eq_true rfl) (Nat.le_of_ble_eq_true rfl) (Nat.zero_le _) (Nat.zero_le _) dX4_readPut_58 (fun r7 m8 => ?_)
  refine hv_aload_n hc dX4_readPut_61 rfl (hv_m 2 rfl) ?_
  refine hv_getR hc fl_X4_21 sh_o_3 rfl dX4_readPut_62 ?_
  refine hv_aload_n hc dX4_readPut_65 rfl (hv_m 2 rfl) ?_
  refine hv_getI hc fl_X4_52 sh_o_3 rfl dX4_readPut_66 ?_
  refine hv_iload_n hc dX4_readPut_69 rfl (hv_m 1 rfl) ?_
  refine hv_callSNv hc (c_X10_set 8 20 sh_a_8 (Nat.le_of_ble_eq_true rfl) (m8 3 10) r1 m8) ys_X10_set nl_8 rfl rfl rfl (Nat.le_of_ble_eq_true rfl) (Nat.le_of_ble_eq_true rfl) (Nat.zero_le _) (Nat.zero_le _) dX4_readPut_70 (fun r9 m10 => ?_)
  refine hv_aload_n hc dX4_readPut_73 rfl (hv_m 2 rfl) ?_
  refine hv_getR hc fl_X4_24 sh_o_3 rfl dX4_readPut_74 ?_
  refine hv_aload_n hc dX4_readPut_77 rfl (hv_m 2 rfl) ?_
  refine hv_getI hc fl_X4_52 sh_o_3 rfl dX4_readPut_78 ?_
  refine hv_iload_n hc dX4_readPut_81 rfl (hv_m 0 rfl) ?_
  refine hv_callSNv hc (c_X10_set 9 20 sh_a_9 (Nat.le_of_ble_eq_true rfl) (m10 3 10) r5 m10) ys_X10_set nl_8 rfl rfl rfl (Nat.le_of_ble_eq_true rfl) (Nat.le_of_ble_eq_true rfl) (Nat.zero_le _) (Nat.zero_le _) dX4_readPut_82 (fun r11 m12 => ?_)
  refine hv_aload_n hc dX4_readPut_85 rfl (hv_m 2 rfl) ?_
  refine hv_iconst hc dX4_readPut_86 ?_
  refine hv_iload_n hc dX4_readPut_87 rfl (hv_m 3 rfl) ?_
  refine hv_iconst hc dX4_readPut_88 ?_
  refine hv_aload_n hc dX4_readPut_89 rfl (hv_m 2 rfl) ?_
  refine hv_getR hc fl_X4_27 sh_o_3 rfl dX4_readPut_90 ?_
  refine hv_iload_n hc dX4_readPut_93 rfl (hv_m 3 rfl) ?_
  refine hv_callSNi hc (c_X10_at 10 20 sh_a_10 (Nat.le_of_ble_eq_true rfl) x1 m12) ys_X10_at nl_7 rfl rfl rfl (Nat.le_of_ble_eq_true rfl) (Nat.le_of_ble_eq_true rfl) (Nat.zero_le _) (Nat.zero_le _) dX4_readPut_94 (fun r13 m14 => ?_)
  refine hv_iconst hc dX4_readPut_97 ?_
  refine hv_iaddw hc dX4_readPut_98 ?_
  refine hv_callVv hc (c_X4_keep 1 x1 ((-1)) (hv_wr (r13 + 1)) m14) yv_X4_keep tw_512 sh_o_3 rfl rfl rfl rfl (Nat.le_of_ble_eq_true rfl) (Nat.le_of_ble_eq_true rfl) (Nat.zero_le _) (Nat.zero_le _) dX4_readPut_99 (fun r15 m16 => ?_)
  exact hv_vret hc dX4_readPut_102
def f_X4_readPut (mem : hMem) : hRs := hv_b (f_X4_passNumber 0 ((mem 3 10) - 1) mem) (fun r1 m2 => hv_b (f_X10_at 10 20 r1 m2) (fun r3 m4 => hv_lt r3 24 (J_X4_readPut_34 r1 m4) (hv_b (f_X4_blame 2 (m4 3 13) m4) (fun r5 m6 => J_X4_readPut_34 r1 m6))))
set_option maxRecDepth 100000 in
set_option maxHeartbeats 4000000 in
theorem c_X4_readPut (mem : hMem) : hv_Met 6 0 0 1 yX4_readPut cX4_readPut 4 (none) (fun ad _ _ => [.ref (ad 3)]) mem (f_X4_readPut mem) := by
  refine hv_start (by decide +kernel) (fun _ _ _ => Nat.le_of_ble_eq_true rfl) ?_
  intro X hc
  have hc : hv_C X cX4_readPut 4 RX4 (none) 6 0 0 := hc
  show hv_R X 4 0 0 (hv_QX X 1 0 0) (f_X4_readPut mem) mem [] [(0, .ref (hv_ad X 3))] [] 0
  unfold f_X4_readPut
  refine hv_aload_n hc dX4_readPut_0 rfl (hv_m 0 rfl) ?_
  refine hv_iconst hc dX4_readPut_1 ?_
  refine hv_aload_n hc dX4_readPut_2 rfl (hv_m 0 rfl) ?_
  refine hv_getI hc fl_X4_52 sh_o_3 rfl dX4_readPut_3 ?_
  refine hv_iconst hc dX4_readPut_6 ?_
  refine hv_isub hc dX4_readPut_7 ?_
  refine hv_callVi hc (c_X4_passNumber 0 ((mem 3 10) - 1) mem) yv_X4_passNumber tw_478 sh_o_3 rfl rfl rfl rfl (Nat.le_of_ble_eq_true rfl) (Nat.le_of_ble_eq_true rfl) (Nat.zero_le _) (Nat.zero_le _) dX4_readPut_8 (fun r1 m2 => ?_)
  refine hv_istore_n (lv' := [(1, .int (hv_I r1)), (0, .ref (hv_ad X 3))]) hc dX4_readPut_11 rfl (by decide) rfl ?_
  refine hv_aload_n hc dX4_readPut_12 rfl (hv_m 1 rfl) ?_
  refine hv_getR hc fl_X4_27 sh_o_3 rfl dX4_readPut_13 ?_
  refine hv_iload_n hc dX4_readPut_16 rfl (hv_m 0 rfl) ?_
  refine hv_callSNi hc (c_X10_at 10 20 sh_a_10 (Nat.le_of_ble_eq_true rfl) r1 m2) ys_X10_at nl_7 rfl rfl rfl (Nat.le_of_ble_eq_true rfl) (Nat.le_of_ble_eq_true rfl) (Nat.zero_le _) (Nat.zero_le _) dX4_readPut_17 (fun r3 m4 => ?_)
  refine hv_bipush hc dX4_readPut_20 (by decide) ?_
  refine hv_icmp_lt (tgt := 34) hc dX4_readPut_22 (by decide) ?_ ?_
  · exact hv_pick [1, 0] rfl (g_X4_readPut_34 hc r1 m4)
  · refine hv_aload_n hc dX4_readPut_25 rfl (hv_m 1 rfl) ?_
    refine hv_iconst hc dX4_readPut_26 ?_
    refine hv_aload_n hc dX4_readPut_27 rfl (hv_m 1 rfl) ?_
    refine hv_getI hc fl_X4_131 sh_o_3 rfl dX4_readPut_28 ?_
    refine hv_callVv hc (c_X4_blame 2 (m4 3 13) m4) yv_X4_blame tw_472 sh_o_3 rfl rfl rfl rfl (Nat.le_of_ble_eq_true rfl) (Nat.le_of_ble_eq_true rfl) (Nat.zero_le _) (Nat.zero_le _) dX4_readPut_31 (fun r5 m6 => ?_)
    exact hv_pick [1, 0] rfl (g_X4_readPut_34 hc r1 m6)
def J_X4_readJoin_57 (x1 x2 x3 : Int) (mem : hMem) : hRs := hv_b (f_X4_passSign mem) (fun r1 m2 => hv_b (f_X4_keep 2 x1 x2 x3 m2) (fun r3 m4 => hv_ret 0 m4))
set_option maxRecDepth 100000 in
theorem g_X4_readJoin_57 {X : hv_X} (hc : hv_C X cX4_readJoin 4 RX4 (none) 4 0 0) (x1 x2 x3 : Int) (mem : hMem) : hv_R X 4 0 0 (hv_QX X 1 0 0) (J_X4_readJoin_57 x1 x2 x3 mem) mem [] [(0, .ref (hv_ad X 3)), (1, .int (hv_I x1)), (2, .int (hv_I x2)), (3, .int (hv_I x3))] [] 57 := by
  unfold J_X4_readJoin_57
  refine hv_aload_n hc dX4_readJoin_57 rfl (hv_m 0 rfl) ?_
  refine hv_callVv hc (c_X4_passSign mem) yv_X4_passSign tw_487 sh_o_3 rfl rfl rfl rfl (Nat.le_of_ble_eq_true rfl) (Nat.le_of_ble_eq_true rfl) (Nat.zero_le _) (Nat.zero_le _) dX4_readJoin_58 (fun r1 m2 => ?_)
  refine hv_aload_n hc dX4_readJoin_61 rfl (hv_m 0 rfl) ?_
  refine hv_iconst hc dX4_readJoin_62 ?_
  refine hv_iload_n hc dX4_readJoin_63 rfl (hv_m 1 rfl) ?_
  refine hv_iload_n hc dX4_readJoin_64 rfl (hv_m 2 rfl) ?_
  refine hv_iload_n hc dX4_readJoin_65 rfl (hv_m 3 rfl) ?_
  refine hv_callVv hc (c_X4_keep 2 x1 x2 x3 m2) yv_X4_keep tw_512 sh_o_3 rfl rfl rfl rfl (Nat.le_of_ble_eq_true rfl) (Nat.le_of_ble_eq_true rfl) (Nat.zero_le _) (Nat.zero_le _) dX4_readJoin_66 (fun r3 m4 => ?_)
  exact hv_vret hc dX4_readJoin_69
def f_X4_readJoin (mem : hMem) : hRs := hv_b (f_X4_passNumber 0 ((mem 3 10) - 1) mem) (fun r1 m2 => hv_b (f_X4_passNumber 0 ((m2 3 10) - 1) m2) (fun r3 m4 => hv_b (f_X10_at 10 20 r1 m4) (fun r5 m6 => hv_b (f_X10_at 10 20 r3 m6) (fun r7 m8 => hv_set (hv_wr (r5 + r7)) (fun y9 => hv_lt 24 y9 (hv_b (f_X4_blame 2 (m8 3 13) m8) (fun r10 m11 => J_X4_readJoin_57 r1 r3 y9 m11)) (J_X4_readJoin_57 r1 r3 y9 m8))))))
set_option maxRecDepth 100000 in
set_option maxHeartbeats 4000000 in
theorem c_X4_readJoin (mem : hMem) : hv_Met 4 0 0 1 yX4_readJoin cX4_readJoin 4 (none) (fun ad _ _ => [.ref (ad 3)]) mem (f_X4_readJoin mem) := by
  refine hv_start (by decide +kernel) (fun _ _ _ => Nat.le_of_ble_eq_true rfl) ?_
  intro X hc
  have hc : hv_C X cX4_readJoin 4 RX4 (none) 4 0 0 := hc
  show hv_R X 4 0 0 (hv_QX X 1 0 0) (f_X4_readJoin mem) mem [] [(0, .ref (hv_ad X 3))] [] 0
  unfold f_X4_readJoin
  refine hv_aload_n hc dX4_readJoin_0 rfl (hv_m 0 rfl) ?_
  refine hv_iconst hc dX4_readJoin_1 ?_
  refine hv_aload_n hc dX4_readJoin_2 rfl (hv_m 0 rfl) ?_
  refine hv_getI hc fl_X4_52 sh_o_3 rfl dX4_readJoin_3 ?_
  refine hv_iconst hc dX4_readJoin_6 ?_
  refine hv_isub hc dX4_readJoin_7 ?_
  refine hv_callVi hc (c_X4_passNumber 0 ((mem 3 10) - 1) mem) yv_X4_passNumber tw_478 sh_o_3 rfl rfl rfl rfl (Nat.le_of_ble_eq_true rfl) (Nat.le_of_ble_eq_true rfl) (Nat.zero_le _) (Nat.zero_le _) dX4_readJoin_8 (fun r1 m2 => ?_)
  refine hv_istore_n (lv' := [(1, .int (hv_I r1)), (0, .ref (hv_ad X 3))]) hc dX4_readJoin_11 rfl (by decide) rfl ?_
  refine hv_aload_n hc dX4_readJoin_12 rfl (hv_m 1 rfl) ?_
  refine hv_iconst hc dX4_readJoin_13 ?_
  refine hv_aload_n hc dX4_readJoin_14 rfl (hv_m 1 rfl) ?_
  refine hv_getI hc fl_X4_52 sh_o_3 rfl dX4_readJoin_15 ?_
  refine hv_iconst hc dX4_readJoin_18 ?_
  refine hv_isub hc dX4_readJoin_19 ?_
  refine hv_callVi hc (c_X4_passNumber 0 ((m2 3 10) - 1) m2) yv_X4_passNumber tw_478 sh_o_3 rfl rfl rfl rfl (Nat.le_of_ble_eq_true rfl) (Nat.le_of_ble_eq_true rfl) (Nat.zero_le _) (Nat.zero_le _) dX4_readJoin_20 (fun r3 m4 => ?_)
  refine hv_istore_n (lv' := [(2, .int (hv_I r3)), (1, .int (hv_I r1)), (0, .ref (hv_ad X 3))]) hc dX4_readJoin_23 rfl (by decide) rfl ?_
  refine hv_aload_n hc dX4_readJoin_24 rfl (hv_m 2 rfl) ?_
  refine hv_getR hc fl_X4_27 sh_o_3 rfl dX4_readJoin_25 ?_
  refine hv_iload_n hc dX4_readJoin_28 rfl (hv_m 1 rfl) ?_
  refine hv_callSNi hc (c_X10_at 10 20 sh_a_10 (Nat.le_of_ble_eq_true rfl) r1 m4) ys_X10_at nl_7 rfl rfl rfl (Nat.le_of_ble_eq_true rfl) (Nat.le_of_ble_eq_true rfl) (Nat.zero_le _) (Nat.zero_le _) dX4_readJoin_29 (fun r5 m6 => ?_)
  refine hv_aload_n hc dX4_readJoin_32 rfl (hv_m 2 rfl) ?_
  refine hv_getR hc fl_X4_27 sh_o_3 rfl dX4_readJoin_33 ?_
  refine hv_iload_n hc dX4_readJoin_36 rfl (hv_m 0 rfl) ?_
  refine hv_callSNi hc (c_X10_at 10 20 sh_a_10 (Nat.le_of_ble_eq_true rfl) r3 m6) ys_X10_at nl_7 rfl rfl rfl (Nat.le_of_ble_eq_true rfl) (Nat.le_of_ble_eq_true rfl) (Nat.zero_le _) (Nat.zero_le _) dX4_readJoin_37 (fun r7 m8 => ?_)
  refine hv_iaddw hc dX4_readJoin_40 ?_
  refine hv_istore_ns (lvf := fun y9 => [(3, .int (hv_I y9)), (2, .int (hv_I r3)), (1, .int (hv_I r1)), (0, .ref (hv_ad X 3))]) hc dX4_readJoin_41 rfl (by decide) (fun _ => rfl) (fun y9 => ?_)
  refine hv_iload_n hc dX4_readJoin_42 rfl (hv_m 0 rfl) ?_
  refine hv_bipush hc dX4_readJoin_43 (by decide) ?_
  refine hv_icmp_le (tgt := 57) hc dX4_readJoin_45 (by decide) ?_ ?_
  · exact hv_pick [3, 2, 1, 0] rfl (g_X4_readJoin_57 hc r1 r3 y9 m8)
  · refine hv_aload_n hc dX4_readJoin_48 rfl (hv_m 3 rfl) ?_
    refine hv_iconst hc dX4_readJoin_49 ?_
    refine hv_aload_n hc dX4_readJoin_50 rfl (hv_m 3 rfl) ?_
    refine hv_getI hc fl_X4_131 sh_o_3 rfl dX4_readJoin_51 ?_
    refine hv_callVv hc (c_X4_blame 2 (m8 3 13) m8) yv_X4_blame tw_472 sh_o_3 rfl rfl rfl rfl (Nat.le_of_ble_eq_true rfl) (Nat.le_of_ble_eq_true rfl) (Nat.zero_le _) (Nat.zero_le _) dX4_readJoin_54 (fun r10 m11 => ?_)
    exact hv_pick [3, 2, 1, 0] rfl (g_X4_readJoin_57 hc r1 r3 y9 m11)
def J_X4_readTake_32 (x1 : Int) (mem : hMem) : hRs := hv_b (f_X4_passSign mem) (fun r1 m2 => hv_b (f_X10_at 10 20 x1 m2) (fun r3 m4 => hv_b (f_X4_keep 3 x1 ((-1)) (hv_wr (r3 - 1)) m4) (fun r5 m6 => hv_ret 0 m6)))
set_option maxRecDepth 100000 in
theorem g_X4_readTake_32 {X : hv_X} (hc : hv_C X cX4_readTake 2 RX4 (none) 4 0 0) (x1 : Int) (mem : hMem) : hv_R X 2 0 0 (hv_QX X 1 0 0) (J_X4_readTake_32 x1 mem) mem [] [(0, .ref (hv_ad X 3)), (1, .int (hv_I x1))] [] 32 := by
  unfold J_X4_readTake_32
  refine hv_aload_n hc dX4_readTake_32 rfl (hv_m 0 rfl) ?_
  refine hv_callVv hc (c_X4_passSign mem) yv_X4_passSign tw_487 sh_o_3 rfl rfl rfl rfl (Nat.le_of_ble_eq_true rfl) (Nat.le_of_ble_eq_true rfl) (Nat.zero_le _) (Nat.zero_le _) dX4_readTake_33 (fun r1 m2 => ?_)
  refine hv_aload_n hc dX4_readTake_36 rfl (hv_m 0 rfl) ?_
  refine hv_iconst hc dX4_readTake_37 ?_
  refine hv_iload_n hc dX4_readTake_38 rfl (hv_m 1 rfl) ?_
  refine hv_iconst hc dX4_readTake_39 ?_
  refine hv_aload_n hc dX4_readTake_40 rfl (hv_m 0 rfl) ?_
  refine hv_getR hc fl_X4_27 sh_o_3 rfl dX4_readTake_41 ?_
  refine hv_iload_n hc dX4_readTake_44 rfl (hv_m 1 rfl) ?_
  refine hv_callSNi hc (c_X10_at 10 20 sh_a_10 (Nat.le_of_ble_eq_true rfl) x1 m2) ys_X10_at nl_7 rfl rfl rfl (Nat.le_of_ble_eq_true rfl) (Nat.le_of_ble_eq_true rfl) (Nat.zero_le _) (Nat.zero_le _) dX4_readTake_45 (fun r3 m4 => ?_)
  refine hv_iconst hc dX4_readTake_48 ?_
  refine hv_isubw hc dX4_readTake_49 ?_
  refine hv_callVv hc (c_X4_keep 3 x1 ((-1)) (hv_wr (r3 - 1)) m4) yv_X4_keep tw_512 sh_o_3 rfl rfl rfl rfl (Nat.le_of_ble_eq_true rfl) (Nat.le_of_ble_eq_true rfl) (Nat.zero_le _) (Nat.zero_le _) dX4_readTake_50 (fun r5 m6 => ?_)
  exact hv_vret hc dX4_readTake_53
def f_X4_readTake (mem : hMem) : hRs := hv_b (f_X4_passNumber 0 ((mem 3 10) - 1) mem) (fun r1 m2 => hv_b (f_X10_at 10 20 r1 m2) (fun r3 m4 => hv_eq r3 0 (hv_b (f_X4_blame 2 (m4 3 13) m4) (fun r5 m6 => J_X4_readTake_32 r1 m6)) (J_X4_readTake_32 r1 m4)))
set_option maxRecDepth 100000 in
set_option maxHeartbeats 4000000 in
theorem c_X4_readTake (mem : hMem) : hv_Met 4 0 0 1 yX4_readTake cX4_readTake 2 (none) (fun ad _ _ => [.ref (ad 3)]) mem (f_X4_readTake mem) := by
  refine hv_start (by decide +kernel) (fun _ _ _ => Nat.le_of_ble_eq_true rfl) ?_
  intro X hc
  have hc : hv_C X cX4_readTake 2 RX4 (none) 4 0 0 := hc
  show hv_R X 2 0 0 (hv_QX X 1 0 0) (f_X4_readTake mem) mem [] [(0, .ref (hv_ad X 3))] [] 0
  unfold f_X4_readTake
  refine hv_aload_n hc dX4_readTake_0 rfl (hv_m 0 rfl) ?_
  refine hv_iconst hc dX4_readTake_1 ?_
  refine hv_aload_n hc dX4_readTake_2 rfl (hv_m 0 rfl) ?_
  refine hv_getI hc fl_X4_52 sh_o_3 rfl dX4_readTake_3 ?_
  refine hv_iconst hc dX4_readTake_6 ?_
  refine hv_isub hc dX4_readTake_7 ?_
  refine hv_callVi hc (c_X4_passNumber 0 ((mem 3 10) - 1) mem) yv_X4_passNumber tw_478 sh_o_3 rfl rfl rfl rfl (Nat.le_of_ble_eq_true rfl) (Nat.le_of_ble_eq_true rfl) (Nat.zero_le _) (Nat.zero_le _) dX4_readTake_8 (fun r1 m2 => ?_)
  refine hv_istore_n (lv' := [(1, .int (hv_I r1)), (0, .ref (hv_ad X 3))]) hc dX4_readTake_11 rfl (by decide) rfl ?_
  refine hv_aload_n hc dX4_readTake_12 rfl (hv_m 1 rfl) ?_
  refine hv_getR hc fl_X4_27 sh_o_3 rfl dX4_readTake_13 ?_
  refine hv_iload_n hc dX4_readTake_16 rfl (hv_m 0 rfl) ?_
  refine hv_callSNi hc (c_X10_at 10 20 sh_a_10 (Nat.le_of_ble_eq_true rfl) r1 m2) ys_X10_at nl_7 rfl rfl rfl (Nat.le_of_ble_eq_true rfl) (Nat.le_of_ble_eq_true rfl) (Nat.zero_le _) (Nat.zero_le _) dX4_readTake_17 (fun r3 m4 => ?_)
  refine hv_if_ne (tgt := 32) hc dX4_readTake_20 (by decide) ?_ ?_
  · exact hv_pick [1, 0] rfl (g_X4_readTake_32 hc r1 m4)
  · refine hv_aload_n hc dX4_readTake_23 rfl (hv_m 1 rfl) ?_
    refine hv_iconst hc dX4_readTake_24 ?_
    refine hv_aload_n hc dX4_readTake_25 rfl (hv_m 1 rfl) ?_
    refine hv_getI hc fl_X4_131 sh_o_3 rfl dX4_readTake_26 ?_
    refine hv_callVv hc (c_X4_blame 2 (m4 3 13) m4) yv_X4_blame tw_472 sh_o_3 rfl rfl rfl rfl (Nat.le_of_ble_eq_true rfl) (Nat.le_of_ble_eq_true rfl) (Nat.zero_le _) (Nat.zero_le _) dX4_readTake_29 (fun r5 m6 => ?_)
    exact hv_pick [1, 0] rfl (g_X4_readTake_32 hc r1 m6)
def f_X4_readNew (mem : hMem) : hRs := hv_b (f_X4_passSign mem) (fun r1 m2 => hv_b (f_X4_keep 0 ((-1)) ((-1)) 0 m2) (fun r3 m4 => hv_ret 0 m4))
set_option maxRecDepth 100000 in
set_option maxHeartbeats 4000000 in
theorem c_X4_readNew (mem : hMem) : hv_Met 4 0 0 1 yX4_readNew cX4_readNew 1 (none) (fun ad _ _ => [.ref (ad 3)]) mem (f_X4_readNew mem) := by
  refine hv_start (by decide +kernel) (fun _ _ _ => Nat.le_of_ble_eq_true rfl) ?_
  intro X hc
  have hc : hv_C X cX4_readNew 1 RX4 (none) 4 0 0 := hc
  show hv_R X 1 0 0 (hv_QX X 1 0 0) (f_X4_readNew mem) mem [] [(0, .ref (hv_ad X 3))] [] 0
  unfold f_X4_readNew
  refine hv_aload_n hc dX4_readNew_0 rfl (hv_m 0 rfl) ?_
  refine hv_callVv hc (c_X4_passSign mem) yv_X4_passSign tw_487 sh_o_3 rfl rfl rfl rfl (Nat.le_of_ble_eq_true rfl) (Nat.le_of_ble_eq_true rfl) (Nat.zero_le _) (Nat.zero_le _) dX4_readNew_1 (fun r1 m2 => ?_)
  refine hv_aload_n hc dX4_readNew_4 rfl (hv_m 0 rfl) ?_
  refine hv_iconst hc dX4_readNew_5 ?_
  refine hv_iconst hc dX4_readNew_6 ?_
  refine hv_iconst hc dX4_readNew_7 ?_
  refine hv_iconst hc dX4_readNew_8 ?_
  refine hv_callVv hc (c_X4_keep 0 ((-1)) ((-1)) 0 m2) yv_X4_keep tw_512 sh_o_3 rfl rfl rfl rfl (Nat.le_of_ble_eq_true rfl) (Nat.le_of_ble_eq_true rfl) (Nat.zero_le _) (Nat.zero_le _) dX4_readNew_9 (fun r3 m4 => ?_)
  exact hv_vret hc dX4_readNew_12
def f_X4_readOther (mem : hMem) : hRs := hv_b (f_X4_howOfWord mem) (fun r1 m2 => hv_eq r1 ((-1)) (hv_b (f_X8_start m2) (fun r17 m18 => hv_b (f_X4_blame 1 r17 m18) (fun r19 m20 => hv_ret 0 m20))) (hv_lt (m2 3 10) 20 (hv_b (f_X8_move m2) (fun r3 m4 => hv_tsw r1 1 [hv_b (f_X4_readPut m4) (fun r5 m6 => hv_ret 0 m6), hv_b (f_X4_readJoin m4) (fun r7 m8 => hv_ret 0 m8), hv_b (f_X4_readTake m4) (fun r9 m10 => hv_ret 0 m10)] (hv_b (f_X4_readNew m4) (fun r11 m12 => hv_ret 0 m12)))) (hv_b (f_X8_start m2) (fun r13 m14 => hv_b (f_X4_blame 3 r13 m14) (fun r15 m16 => hv_ret 0 m16)))))
set_option maxRecDepth 100000 in
set_option maxHeartbeats 4000000 in
theorem c_X4_readOther (mem : hMem) : hv_Met 7 0 0 1 yX4_readOther cX4_readOther 2 (none) (fun ad _ _ => [.ref (ad 3)]) mem (f_X4_readOther mem) := by
  refine hv_start (by decide +kernel) (fun _ _ _ => Nat.le_of_ble_eq_true rfl) ?_
  intro X hc
  have hc : hv_C X cX4_readOther 2 RX4 (none) 7 0 0 := hc
  show hv_R X 2 0 0 (hv_QX X 1 0 0) (f_X4_readOther mem) mem [] [(0, .ref (hv_ad X 3))] [] 0
  unfold f_X4_readOther
  refine hv_aload_n hc dX4_readOther_0 rfl (hv_m 0 rfl) ?_
  refine hv_callVi hc (c_X4_howOfWord mem) yv_X4_howOfWord tw_495 sh_o_3 rfl rfl rfl rfl (Nat.le_of_ble_eq_true rfl) (Nat.le_of_ble_eq_true rfl) (Nat.zero_le _) (Nat.zero_le _) dX4_readOther_1 (fun r1 m2 => ?_)
  refine hv_istore_n (lv' := [(1, .int (hv_I r1)), (0, .ref (hv_ad X 3))]) hc dX4_readOther_4 rfl (by decide) rfl ?_
  refine hv_iload_n hc dX4_readOther_5 rfl (hv_m 0 rfl) ?_
  refine hv_iconst hc dX4_readOther_6 ?_
  refine hv_icmp_ne (tgt := 25) hc dX4_readOther_7 (by decide) ?_ ?_
  · refine hv_aload_n hc dX4_readOther_25 rfl (hv_m 1 rfl) ?_
    refine hv_getI hc fl_X4_52 sh_o_3 rfl dX4_readOther_26 ?_
    refine hv_bipush hc dX4_readOther_29 (by decide) ?_
    refine hv_icmp_lt (tgt := 49) hc dX4_readOther_31 (by decide) ?_ ?_
    · refine hv_aload_n hc dX4_readOther_49 rfl (hv_m 1 rfl) ?_
      refine hv_getR hc fl_X4_35 sh_o_3 rfl dX4_readOther_50 ?_
      refine hv_callVv hc (c_X8_move m2) yv_X8_move tw_476 sh_o_4 rfl rfl rfl rfl (Nat.le_of_ble_eq_true rfl) (Nat.le_of_ble_eq_true rfl) (Nat.zero_le _) (Nat.zero_le _) dX4_readOther_53 (fun r3 m4 => ?_)
      refine hv_iload_n hc dX4_readOther_56 rfl (hv_m 0 rfl) ?_
      refine hv_tswitch (tgts := [84, 91, 98]) (tD := 105) hc dX4_readOther_57 rfl (by decide) (by decide) ⟨?_, ?_, ?_, trivial⟩ ?_
      · refine hv_aload_n hc dX4_readOther_84 rfl (hv_m 1 rfl) ?_
        refine hv_callVv hc (c_X4_readPut m4) yv_X4_readPut tw_503 sh_o_3 rfl rfl rfl rfl (Nat.le_of_ble_eq_true rfl) (Nat.le_of_ble_eq_true rfl) (Nat.zero_le _) (Nat.zero_le _) dX4_readOther_85 (fun r5 m6 => ?_)
        refine hv_goto (tgt := 109) hc dX4_readOther_88 (by decide) ?_
        exact hv_vret hc dX4_readOther_109
      · refine hv_aload_n hc dX4_readOther_91 rfl (hv_m 1 rfl) ?_
        refine hv_callVv hc (c_X4_readJoin m4) yv_X4_readJoin tw_516 sh_o_3 rfl rfl rfl rfl (Nat.le_of_ble_eq_true rfl) (Nat.le_of_ble_eq_true rfl) (Nat.zero_le _) (Nat.zero_le _) dX4_readOther_92 (fun r7 m8 => ?_)
        refine hv_goto (tgt := 109) hc dX4_readOther_95 (by decide) ?_
        exact hv_vret hc dX4_readOther_109
      · refine hv_aload_n hc dX4_readOther_98 rfl (hv_m 1 rfl) ?_
        refine hv_callVv hc (c_X4_readTake m4) yv_X4_readTake tw_520 sh_o_3 rfl rfl rfl rfl (Nat.le_of_ble_eq_true rfl) (Nat.le_of_ble_eq_true rfl) (Nat.zero_le _) (Nat.zero_le _) dX4_readOther_99 (fun r9 m10 => ?_)
        refine hv_goto (tgt := 109) hc dX4_readOther_102 (by decide) ?_
        exact hv_vret hc dX4_readOther_109
      · refine hv_aload_n hc dX4_readOther_105 rfl (hv_m 1 rfl) ?_
        refine hv_callVv hc (c_X4_readNew m4) yv_X4_readNew tw_524 sh_o_3 rfl rfl rfl rfl (Nat.le_of_ble_eq_true rfl) (Nat.le_of_ble_eq_true rfl) (Nat.zero_le _) (Nat.zero_le _) dX4_readOther_106 (fun r11 m12 => ?_)
        exact hv_vret hc dX4_readOther_109
    · refine hv_aload_n hc dX4_readOther_34 rfl (hv_m 1 rfl) ?_
      refine hv_iconst hc dX4_readOther_35 ?_
      refine hv_aload_n hc dX4_readOther_36 rfl (hv_m 1 rfl) ?_
      refine hv_getR hc fl_X4_35 sh_o_3 rfl dX4_readOther_37 ?_
      refine hv_callVi hc (c_X8_start m2) yv_X8_start tw_468 sh_o_4 rfl rfl rfl rfl (Nat.le_of_ble_eq_true rfl) (Nat.le_of_ble_eq_true rfl) (Nat.zero_le _) (Nat.zero_le _) dX4_readOther_40 (fun r13 m14 => ?_)
      refine hv_callVv hc (c_X4_blame 3 r13 m14) yv_X4_blame tw_472 sh_o_3 rfl rfl rfl rfl (Nat.le_of_ble_eq_true rfl) (Nat.le_of_ble_eq_true rfl) (Nat.zero_le _) (Nat.zero_le _) dX4_readOther_43 (fun r15 m16 => ?_)
      refine hv_goto (tgt := 109) hc dX4_readOther_46 (by decide) ?_
      exact hv_vret hc dX4_readOther_109
  · refine hv_aload_n hc dX4_readOther_10 rfl (hv_m 1 rfl) ?_
    refine hv_iconst hc dX4_readOther_11 ?_
    refine hv_aload_n hc dX4_readOther_12 rfl (hv_m 1 rfl) ?_
    refine hv_getR hc fl_X4_35 sh_o_3 rfl dX4_readOther_13 ?_
    refine hv_callVi hc (c_X8_start m2) yv_X8_start tw_468 sh_o_4 rfl rfl rfl rfl (Nat.le_of_ble_eq_true rfl) (Nat.le_of_ble_eq_true rfl) (Nat.zero_le _) (Nat.zero_le _) dX4_readOther_16 (fun r17 m18 => ?_)
    refine hv_callVv hc (c_X4_blame 1 r17 m18) yv_X4_blame tw_472 sh_o_3 rfl rfl rfl rfl (Nat.le_of_ble_eq_true rfl) (Nat.le_of_ble_eq_true rfl) (Nat.zero_le _) (Nat.zero_le _) dX4_readOther_19 (fun r19 m20 => ?_)
    refine hv_goto (tgt := 109) hc dX4_readOther_22 (by decide) ?_
    exact hv_vret hc dX4_readOther_109
def J_X4_read_97 (mem : hMem) : hRs := hv_eq (mem 3 11) 0 (hv_zr 1 mem) (hv_zr 0 mem)
set_option maxRecDepth 100000 in
theorem g_X4_read_97 {X : hv_X} (hc : hv_C X cX4_read 2 RX4 (some FieldType.boolean) 8 0 0) (mem : hMem) : hv_R X 2 0 0 (hv_QX X 0 0 0) (J_X4_read_97 mem) mem [] [(0, .ref (hv_ad X 3))] [] 97 := by
  unfold J_X4_read_97
  refine hv_aload_n hc dX4_read_97 rfl (hv_m 0 rfl) ?_
  refine hv_getI hc fl_X4_55 sh_o_3 rfl dX4_read_98 ?_
  refine hv_if_ne (tgt := 108) hc dX4_read_101 (by decide) ?_ ?_
  · refine hv_iconst hc dX4_read_108 ?_
    exact hv_zret hc dX4_read_109
  · refine hv_iconst hc dX4_read_104 ?_
    refine hv_goto (tgt := 109) hc dX4_read_105 (by decide) ?_
    exact hv_zret hc dX4_read_109
def J_X4_read_81 (R39 : Int → hMem → hRs) (x1 : Int) (mem : hMem) : hRs := hv_put mem 3 9 ((mem 3 9) + 1) (fun m1 => hv_set (x1 + 1) (fun y2 => R39 y2 m1))
set_option maxRecDepth 100000 in
theorem g_X4_read_81 {X : hv_X} (hc : hv_C X cX4_read 2 RX4 (some FieldType.boolean) 8 0 0) (R39 : Int → hMem → hRs) (hR39 : ∀ (x1 : Int) (mem : hMem), hv_R X 2 0 0 (hv_QX X 0 0 0) (R39 x1 mem) mem [] [(0, .ref (hv_ad X 3)), (1, .int (hv_I x1))] [] 39) (x1 : Int) (mem : hMem) : hv_R X 2 0 0 (hv_QX X 0 0 0) (J_X4_read_81 R39 x1 mem) mem [] [(0, .ref (hv_ad X 3)), (1, .int (hv_I x1))] [] 81 := by
  unfold J_X4_read_81
  refine hv_aload_n hc dX4_read_81 rfl (hv_m 0 rfl) ?_
  refine hv_dup hc dX4_read_82 rfl ?_
  refine hv_getI hc fl_X4_49 sh_o_3 rfl dX4_read_83 ?_
  refine hv_iconst hc dX4_read_86 ?_
  refine hv_iadd hc dX4_read_87 ?_
  refine hv_putI hc fp_X4_49 sh_o_3 rfl dX4_read_88 (fun m1 => ?_)
  refine hv_iinc_s (lvf := fun y2 => [(1, .int (hv_I y2)), (0, .ref (hv_ad X 3))]) hc dX4_read_91 (by decide) (hv_m 1 rfl) (fun _ => rfl) (fun y2 => ?_)
  refine hv_goto (tgt := 39) hc dX4_read_94 (by decide) ?_
  exact hv_pick [1, 0] rfl (hR39 y2 m1)
def B_X4_read_39 (R39 : Int → hMem → hRs) (x1 : Int) (mem : hMem) : hRs := hv_lt x1 600 (hv_b (f_X8_kind mem) (fun r1 m2 => hv_eq r1 0 (J_X4_read_97 m2) (hv_eq (m2 3 11) 0 (hv_eq (m2 3 9) 0 (hv_b (f_X4_readPlan m2) (fun r5 m6 => J_X4_read_81 R39 x1 m6)) (hv_b (f_X4_readOther m2) (fun r3 m4 => J_X4_read_81 R39 x1 m4))) (J_X4_read_97 m2)))) (J_X4_read_97 mem)
def L_X4_read_39 : Nat → Int → hMem → hRs
  | 0 => fun _ _ => none
  | n + 1 => B_X4_read_39 (L_X4_read_39 n)
set_option maxRecDepth 100000 in
theorem gB_X4_read_39 {X : hv_X} (hc : hv_C X cX4_read 2 RX4 (some FieldType.boolean) 8 0 0) (R39 : Int → hMem → hRs) (hR39 : ∀ (x1 : Int) (mem : hMem), hv_R X 2 0 0 (hv_QX X 0 0 0) (R39 x1 mem) mem [] [(0, .ref (hv_ad X 3)), (1, .int (hv_I x1))] [] 39) (x1 : Int) (mem : hMem) : hv_R X 2 0 0 (hv_QX X 0 0 0) (B_X4_read_39 R39 x1 mem) mem [] [(0, .ref (hv_ad X 3)), (1, .int (hv_I x1))] [] 39 := by
  unfold B_X4_read_39
  refine hv_iload_n hc dX4_read_39 rfl (hv_m 1 rfl) ?_
  refine hv_sipush hc dX4_read_40 (by decide) ?_
  refine hv_icmp_ge (tgt := 97) hc dX4_read_43 (by decide) ?_ ?_
  · exact hv_pick [0] rfl (g_X4_read_97 hc mem)
  · refine hv_aload_n hc dX4_read_46 rfl (hv_m 0 rfl) ?_
    refine hv_getR hc fl_X4_35 sh_o_3 rfl dX4_read_47 ?_
    refine hv_callVi hc (c_X8_kind mem) yv_X8_kind tw_403 sh_o_4 rfl rfl rfl rfl (Nat.le_of_ble_eq_true rfl) (Nat.le_of_ble_eq_true rfl) (Nat.zero_le _) (Nat.zero_le _) dX4_read_50 (fun r1 m2 => ?_)
    refine hv_if_eq (tgt := 97) hc dX4_read_53 (by decide) ?_ ?_
    · exact hv_pick [0] rfl (g_X4_read_97 hc m2)
    · refine hv_aload_n hc dX4_read_56 rfl (hv_m 0 rfl) ?_
      refine hv_getI hc fl_X4_55 sh_o_3 rfl dX4_read_57 ?_
      refine hv_if_ne (tgt := 97) hc dX4_read_60 (by decide) ?_ ?_
      · exact hv_pick [0] rfl (g_X4_read_97 hc m2)
      · refine hv_aload_n hc dX4_read_63 rfl (hv_m 0 rfl) ?_
        refine hv_getI hc fl_X4_49 sh_o_3 rfl dX4_read_64 ?_
        refine hv_if_ne (tgt := 77) hc dX4_read_67 (by decide) ?_ ?_
        · refine hv_aload_n hc dX4_read_77 rfl (hv_m 0 rfl) ?_
          refine hv_callVv hc (c_X4_readOther m2) yv_X4_readOther tw_491 sh_o_3 rfl rfl rfl rfl (Nat.le_of_ble_eq_true rfl) (Nat.le_of_ble_eq_true rfl) (Nat.zero_le _) (Nat.zero_le _) dX4_read_78 (fun r3 m4 => ?_)
          exact hv_pick [0, 1] rfl (g_X4_read_81 hc R39 hR39 x1 m4)
        · refine hv_aload_n hc dX4_read_70 rfl (hv_m 0 rfl) ?_
          refine hv_callVv hc (c_X4_readPlan m2) yv_X4_readPlan tw_407 sh_o_3 rfl rfl rfl rfl (Nat.le_of_ble_eq_true rfl) (Nat.le_of_ble_eq_true rfl) (Nat.zero_le _) (Nat.zero_le _) dX4_read_71 (fun r5 m6 => ?_)
          refine hv_goto (tgt := 81) hc dX4_read_74 (by decide) ?_
          exact hv_pick [0, 1] rfl (g_X4_read_81 hc R39 hR39 x1 m6)
theorem g_X4_read_39 {X : hv_X} (hc : hv_C X cX4_read 2 RX4 (some FieldType.boolean) 8 0 0) : ∀ (n : Nat) (x1 : Int) (mem : hMem), hv_R X 2 0 0 (hv_QX X 0 0 0) (L_X4_read_39 n x1 mem) mem [] [(0, .ref (hv_ad X 3)), (1, .int (hv_I x1))] [] 39 := by
  intro n
  induction n with
  | zero => intros; exact hv_none
  | succ n ih => exact gB_X4_read_39 hc _ ih
def f_X4_read (mem : hMem) : hRs := hv_put mem 3 7 0 (fun m1 => hv_put m1 3 8 0 (fun m2 => hv_put m2 3 9 0 (fun m3 => hv_put m3 3 10 0 (fun m4 => hv_put m4 3 11 0 (fun m5 => hv_put m5 3 12 ((-1)) (fun m6 => hv_b (f_X8_begin m6) (fun r7 m8 => L_X4_read_39 hv_FU 0 m8)))))))
set_option maxRecDepth 100000 in
set_option maxHeartbeats 4000000 in
theorem c_X4_read (mem : hMem) : hv_Met 8 0 0 0 yX4_read cX4_read 2 (some FieldType.boolean) (fun ad _ _ => [.ref (ad 3)]) mem (f_X4_read mem) := by
  refine hv_start (by decide +kernel) (fun _ _ _ => Nat.le_of_ble_eq_true rfl) ?_
  intro X hc
  have hc : hv_C X cX4_read 2 RX4 (some FieldType.boolean) 8 0 0 := hc
  show hv_R X 2 0 0 (hv_QX X 0 0 0) (f_X4_read mem) mem [] [(0, .ref (hv_ad X 3))] [] 0
  unfold f_X4_read
  refine hv_aload_n hc dX4_read_0 rfl (hv_m 0 rfl) ?_
  refine hv_iconst hc dX4_read_1 ?_
  refine hv_putI hc fp_X4_43 sh_o_3 rfl dX4_read_2 (fun m1 => ?_)
  refine hv_aload_n hc dX4_read_5 rfl (hv_m 0 rfl) ?_
  refine hv_iconst hc dX4_read_6 ?_
  refine hv_putI hc fp_X4_46 sh_o_3 rfl dX4_read_7 (fun m2 => ?_)
  refine hv_aload_n hc dX4_read_10 rfl (hv_m 0 rfl) ?_
  refine hv_iconst hc dX4_read_11 ?_
  refine hv_putI hc fp_X4_49 sh_o_3 rfl dX4_read_12 (fun m3 => ?_)
  refine hv_aload_n hc dX4_read_15 rfl (hv_m 0 rfl) ?_
  refine hv_iconst hc dX4_read_16 ?_
  refine hv_putI hc fp_X4_52 sh_o_3 rfl dX4_read_17 (fun m4 => ?_)
  refine hv_aload_n hc dX4_read_20 rfl (hv_m 0 rfl) ?_
  refine hv_iconst hc dX4_read_21 ?_
  refine hv_putI hc fp_X4_55 sh_o_3 rfl dX4_read_22 (fun m5 => ?_)
  refine hv_aload_n hc dX4_read_25 rfl (hv_m 0 rfl) ?_
  refine hv_iconst hc dX4_read_26 ?_
  refine hv_putI hc fp_X4_39 sh_o_3 rfl dX4_read_27 (fun m6 => ?_)
  refine hv_aload_n hc dX4_read_30 rfl (hv_m 0 rfl) ?_
  refine hv_getR hc fl_X4_35 sh_o_3 rfl dX4_read_31 ?_
  refine hv_callVv hc (c_X8_begin m6) yv_X8_begin tw_370 sh_o_4 rfl rfl rfl rfl (Nat.le_of_ble_eq_true rfl) (Nat.le_of_ble_eq_true rfl) (Nat.zero_le _) (Nat.zero_le _) dX4_read_34 (fun r7 m8 => ?_)
  refine hv_iconst hc dX4_read_37 ?_
  refine hv_istore_n (lv' := [(1, .int (hv_I 0)), (0, .ref (hv_ad X 3))]) hc dX4_read_38 rfl (by decide) rfl ?_
  exact hv_pick [1, 0] rfl (g_X4_read_39 hc hv_FU 0 m8)
def f_X5_last (mem : hMem) : hRs := hv_ret (mem 61 5) mem
set_option maxRecDepth 100000 in
set_option maxHeartbeats 4000000 in
theorem c_X5_last (mem : hMem) : hv_Met 0 0 0 0 yX5_last cX5_last 1 (some FieldType.int) (fun ad _ _ => [.ref (ad 61)]) mem (f_X5_last mem) := by
  refine hv_start (by decide +kernel) (fun _ _ _ => Nat.le_of_ble_eq_true rfl) ?_
  intro X hc
  have hc : hv_C X cX5_last 1 RX5 (some FieldType.int) 0 0 0 := hc
  show hv_R X 1 0 0 (hv_QX X 0 0 0) (f_X5_last mem) mem [] [(0, .ref (hv_ad X 61))] [] 0
  unfold f_X5_last
  refine hv_aload_n hc dX5_last_0 rfl (hv_m 0 rfl) ?_
  refine hv_getI hc fl_X5_25 sh_o_61 rfl dX5_last_1 ?_
  exact hv_iret hc dX5_last_4
def f_X5_late (mem : hMem) : hRs := hv_ret (mem 61 6) mem
set_option maxRecDepth 100000 in
set_option maxHeartbeats 4000000 in
theorem c_X5_late (mem : hMem) : hv_Met 0 0 0 0 yX5_late cX5_late 1 (some FieldType.int) (fun ad _ _ => [.ref (ad 61)]) mem (f_X5_late mem) := by
  refine hv_start (by decide +kernel) (fun _ _ _ => Nat.le_of_ble_eq_true rfl) ?_
  intro X hc
  have hc : hv_C X cX5_late 1 RX5 (some FieldType.int) 0 0 0 := hc
  show hv_R X 1 0 0 (hv_QX X 0 0 0) (f_X5_late mem) mem [] [(0, .ref (hv_ad X 61))] [] 0
  unfold f_X5_late
  refine hv_aload_n hc dX5_late_0 rfl (hv_m 0 rfl) ?_
  refine hv_getI hc fl_X5_29 sh_o_61 rfl dX5_late_1 ?_
  exact hv_iret hc dX5_late_4
def f_X5_lateTogether (mem : hMem) : hRs := hv_ret (mem 61 7) mem
set_option maxRecDepth 100000 in
set_option maxHeartbeats 4000000 in
theorem c_X5_lateTogether (mem : hMem) : hv_Met 0 0 0 0 yX5_lateTogether cX5_lateTogether 1 (some FieldType.int) (fun ad _ _ => [.ref (ad 61)]) mem (f_X5_lateTogether mem) := by
  refine hv_start (by decide +kernel) (fun _ _ _ => Nat.le_of_ble_eq_true rfl) ?_
  intro X hc
  have hc : hv_C X cX5_lateTogether 1 RX5 (some FieldType.int) 0 0 0 := hc
  show hv_R X 1 0 0 (hv_QX X 0 0 0) (f_X5_lateTogether mem) mem [] [(0, .ref (hv_ad X 61))] [] 0
  unfold f_X5_lateTogether
  refine hv_aload_n hc dX5_lateTogether_0 rfl (hv_m 0 rfl) ?_
  refine hv_getI hc fl_X5_32 sh_o_61 rfl dX5_lateTogether_1 ?_
  exact hv_iret hc dX5_lateTogether_4
def f_X5_lateMost (mem : hMem) : hRs := hv_ret (mem 61 8) mem
set_option maxRecDepth 100000 in
set_option maxHeartbeats 4000000 in
theorem c_X5_lateMost (mem : hMem) : hv_Met 0 0 0 0 yX5_lateMost cX5_lateMost 1 (some FieldType.int) (fun ad _ _ => [.ref (ad 61)]) mem (f_X5_lateMost mem) := by
  refine hv_start (by decide +kernel) (fun _ _ _ => Nat.le_of_ble_eq_true rfl) ?_
  intro X hc
  have hc : hv_C X cX5_lateMost 1 RX5 (some FieldType.int) 0 0 0 := hc
  show hv_R X 1 0 0 (hv_QX X 0 0 0) (f_X5_lateMost mem) mem [] [(0, .ref (hv_ad X 61))] [] 0
  unfold f_X5_lateMost
  refine hv_aload_n hc dX5_lateMost_0 rfl (hv_m 0 rfl) ?_
  refine hv_getI hc fl_X5_35 sh_o_61 rfl dX5_lateMost_1 ?_
  exact hv_iret hc dX5_lateMost_4
def f_X5_handOf (x1 : Int) (mem : hMem) : hRs := hv_lt x1 (mem 61 4) (hv_b (f_X10_at 63 24 x1 mem) (fun r1 m2 => hv_ret r1 m2)) (hv_ret ((-1)) mem)
set_option maxRecDepth 100000 in
set_option maxHeartbeats 4000000 in
theorem c_X5_handOf (x1 : Int) (mem : hMem) : hv_Met 1 0 0 0 yX5_handOf cX5_handOf 2 (some FieldType.int) (fun ad _ _ => [.ref (ad 61), .int (hv_I x1)]) mem (f_X5_handOf x1 mem) := by
  refine hv_start (by decide +kernel) (fun _ _ _ => Nat.le_of_ble_eq_true rfl) ?_
  intro X hc
  have hc : hv_C X cX5_handOf 2 RX5 (some FieldType.int) 1 0 0 := hc
  show hv_R X 2 0 0 (hv_QX X 0 0 0) (f_X5_handOf x1 mem) mem [] [(0, .ref (hv_ad X 61)), (1, .int (hv_I x1))] [] 0
  unfold f_X5_handOf
  refine hv_iload_n hc dX5_handOf_0 rfl (hv_m 1 rfl) ?_
  refine hv_aload_n hc dX5_handOf_1 rfl (hv_m 0 rfl) ?_
  refine hv_getI hc fl_X5_38 sh_o_61 rfl dX5_handOf_2 ?_
  refine hv_icmp_ge (tgt := 19) hc dX5_handOf_5 (by decide) ?_ ?_
  · refine hv_iconst hc dX5_handOf_19 ?_
    exact hv_iret hc dX5_handOf_20
  · refine hv_aload_n hc dX5_handOf_8 rfl (hv_m 0 rfl) ?_
    refine hv_getR hc fl_X5_15 sh_o_61 rfl dX5_handOf_9 ?_
    refine hv_iload_n hc dX5_handOf_12 rfl (hv_m 1 rfl) ?_
    refine hv_callSNi hc (c_X10_at 63 24 sh_a_63 (Nat.le_of_ble_eq_true rfl) x1 mem) ys_X10_at nl_20 rfl rfl rfl (Nat.le_of_ble_eq_true rfl) (Nat.le_of_ble_eq_true rfl) (Nat.zero_le _) (Nat.zero_le _) dX5_handOf_13 (fun r1 m2 => ?_)
    refine hv_goto (tgt := 20) hc dX5_handOf_16 (by decide) ?_
    exact hv_iret hc dX5_handOf_20
def f_X5_endOf (x1 : Int) (mem : hMem) : hRs := hv_lt x1 (mem 61 4) (hv_b (f_X10_at 64 24 x1 mem) (fun r1 m2 => hv_ret r1 m2)) (hv_ret ((-1)) mem)
set_option maxRecDepth 100000 in
set_option maxHeartbeats 4000000 in
theorem c_X5_endOf (x1 : Int) (mem : hMem) : hv_Met 1 0 0 0 yX5_endOf cX5_endOf 2 (some FieldType.int) (fun ad _ _ => [.ref (ad 61), .int (hv_I x1)]) mem (f_X5_endOf x1 mem) := by
  refine hv_start (by decide +kernel) (fun _ _ _ => Nat.le_of_ble_eq_true rfl) ?_
  intro X hc
  have hc : hv_C X cX5_endOf 2 RX5 (some FieldType.int) 1 0 0 := hc
  show hv_R X 2 0 0 (hv_QX X 0 0 0) (f_X5_endOf x1 mem) mem [] [(0, .ref (hv_ad X 61)), (1, .int (hv_I x1))] [] 0
  unfold f_X5_endOf
  refine hv_iload_n hc dX5_endOf_0 rfl (hv_m 1 rfl) ?_
  refine hv_aload_n hc dX5_endOf_1 rfl (hv_m 0 rfl) ?_
  refine hv_getI hc fl_X5_38 sh_o_61 rfl dX5_endOf_2 ?_
  refine hv_icmp_ge (tgt := 19) hc dX5_endOf_5 (by decide) ?_ ?_
  · refine hv_iconst hc dX5_endOf_19 ?_
    exact hv_iret hc dX5_endOf_20
  · refine hv_aload_n hc dX5_endOf_8 rfl (hv_m 0 rfl) ?_
    refine hv_getR hc fl_X5_18 sh_o_61 rfl dX5_endOf_9 ?_
    refine hv_iload_n hc dX5_endOf_12 rfl (hv_m 1 rfl) ?_
    refine hv_callSNi hc (c_X10_at 64 24 sh_a_64 (Nat.le_of_ble_eq_true rfl) x1 mem) ys_X10_at nl_20 rfl rfl rfl (Nat.le_of_ble_eq_true rfl) (Nat.le_of_ble_eq_true rfl) (Nat.zero_le _) (Nat.zero_le _) dX5_endOf_13 (fun r1 m2 => ?_)
    refine hv_goto (tgt := 20) hc dX5_endOf_16 (by decide) ?_
    exact hv_iret hc dX5_endOf_20
def B_X5_freeFirst_4 (R4 : Int → Int → Int → hMem → hRs) (x1 x2 x3 : Int) (mem : hMem) : hRs := hv_lt x3 x1 (hv_b (f_X10_at 62 8 x3 mem) (fun r1 m2 => hv_b (f_X10_at 62 8 x2 m2) (fun r3 m4 => hv_lt r1 r3 (hv_set (x3 + 1) (fun y6 => R4 x1 x3 y6 m4)) (hv_set (x3 + 1) (fun y5 => R4 x1 x2 y5 m4))))) (hv_ret x2 mem)
def L_X5_freeFirst_4 : Nat → Int → Int → Int → hMem → hRs
  | 0 => fun _ _ _ _ => none
  | n + 1 => B_X5_freeFirst_4 (L_X5_freeFirst_4 n)
set_option maxRecDepth 100000 in
theorem gB_X5_freeFirst_4 {X : hv_X} (hc : hv_C X cX5_freeFirst 4 RX5 (some FieldType.int) 1 0 0) (R4 : Int → Int → Int → hMem → hRs) (hR4 : ∀ (x1 x2 x3 : Int) (mem : hMem), hv_R X 4 0 0 (hv_QX X 0 0 0) (R4 x1 x2 x3 mem) mem [] [(0, .ref (hv_ad X 61)), (1, .int (hv_I x1)), (2, .int (hv_I x2)), (3, .int (hv_I x3))] [] 4) (x1 x2 x3 : Int) (mem : hMem) : hv_R X 4 0 0 (hv_QX X 0 0 0) (B_X5_freeFirst_4 R4 x1 x2 x3 mem) mem [] [(0, .ref (hv_ad X 61)), (1, .int (hv_I x1)), (2, .int (hv_I x2)), (3, .int (hv_I x3))] [] 4 := by
  unfold B_X5_freeFirst_4
  refine hv_iload_n hc dX5_freeFirst_4 rfl (hv_m 3 rfl) ?_
  refine hv_iload_n hc dX5_freeFirst_5 rfl (hv_m 1 rfl) ?_
  refine hv_icmp_ge (tgt := 36) hc dX5_freeFirst_6 (by decide) ?_ ?_
  · refine hv_iload_n hc dX5_freeFirst_36 rfl (hv_m 2 rfl) ?_
    exact hv_iret hc dX5_freeFirst_37
  · refine hv_aload_n hc dX5_freeFirst_9 rfl (hv_m 0 rfl) ?_
    refine hv_getR hc fl_X5_9 sh_o_61 rfl dX5_freeFirst_10 ?_
    refine hv_iload_n hc dX5_freeFirst_13 rfl (hv_m 3 rfl) ?_
    refine hv_callSNi hc (c_X10_at 62 8 sh_a_62 (Nat.le_of_ble_eq_true rfl) x3 mem) ys_X10_at nl_20 rfl rfl rfl (Nat.le_of_ble_eq_true rfl) (Nat.le_of_ble_eq_true rfl) (Nat.zero_le _) (Nat.zero_le _) dX5_freeFirst_14 (fun r1 m2 => ?_)
    refine hv_aload_n hc dX5_freeFirst_17 rfl (hv_m 0 rfl) ?_
    refine hv_getR hc fl_X5_9 sh_o_61 rfl dX5_freeFirst_18 ?_
    refine hv_iload_n hc dX5_freeFirst_21 rfl (hv_m 2 rfl) ?_
    refine hv_callSNi hc (c_X10_at 62 8 sh_a_62 (Nat.le_of_ble_eq_true rfl) x2 m2) ys_X10_at nl_20 rfl rfl rfl (Nat.le_of_ble_eq_true rfl) (Nat.le_of_ble_eq_true rfl) (Nat.zero_le _) (Nat.zero_le _) dX5_freeFirst_22 (fun r3 m4 => ?_)
    refine hv_icmp_ge (tgt := 30) hc dX5_freeFirst_25 (by decide) ?_ ?_
    · refine hv_iinc_s (lvf := fun y5 => [(3, .int (hv_I y5)), (0, .ref (hv_ad X 61)), (1, .int (hv_I x1)), (2, .int (hv_I x2))]) hc dX5_freeFirst_30 (by decide) (hv_m 3 rfl) (fun _ => rfl) (fun y5 => ?_)
      refine hv_goto (tgt := 4) hc dX5_freeFirst_33 (by decide) ?_
      exact hv_pick [1, 2, 3, 0] rfl (hR4 x1 x2 y5 m4)
    · refine hv_iload_n hc dX5_freeFirst_28 rfl (hv_m 3 rfl) ?_
      refine hv_istore_n (lv' := [(2, .int (hv_I x3)), (0, .ref (hv_ad X 61)), (1, .int (hv_I x1)), (3, .int (hv_I x3))]) hc dX5_freeFirst_29 rfl (by decide) rfl ?_
      refine hv_iinc_s (lvf := fun y6 => [(3, .int (hv_I y6)), (2, .int (hv_I x3)), (0, .ref (hv_ad X 61)), (1, .int (hv_I x1))]) hc dX5_freeFirst_30 (by decide) (hv_m 3 rfl) (fun _ => rfl) (fun y6 => ?_)
      refine hv_goto (tgt := 4) hc dX5_freeFirst_33 (by decide) ?_
      exact hv_pick [2, 3, 1, 0] rfl (hR4 x1 x3 y6 m4)
theorem g_X5_freeFirst_4 {X : hv_X} (hc : hv_C X cX5_freeFirst 4 RX5 (some FieldType.int) 1 0 0) : ∀ (n : Nat) (x1 x2 x3 : Int) (mem : hMem), hv_R X 4 0 0 (hv_QX X 0 0 0) (L_X5_freeFirst_4 n x1 x2 x3 mem) mem [] [(0, .ref (hv_ad X 61)), (1, .int (hv_I x1)), (2, .int (hv_I x2)), (3, .int (hv_I x3))] [] 4 := by
  intro n
  induction n with
  | zero => intros; exact hv_none
  | succ n ih => exact gB_X5_freeFirst_4 hc _ ih
def f_X5_freeFirst (x1 : Int) (mem : hMem) : hRs := L_X5_freeFirst_4 hv_FU x1 0 1 mem
set_option maxRecDepth 100000 in
set_option maxHeartbeats 4000000 in
theorem c_X5_freeFirst (x1 : Int) (mem : hMem) : hv_Met 1 0 0 0 yX5_freeFirst cX5_freeFirst 4 (some FieldType.int) (fun ad _ _ => [.ref (ad 61), .int (hv_I x1)]) mem (f_X5_freeFirst x1 mem) := by
  refine hv_start (by decide +kernel) (fun _ _ _ => Nat.le_of_ble_eq_true rfl) ?_
  intro X hc
  have hc : hv_C X cX5_freeFirst 4 RX5 (some FieldType.int) 1 0 0 := hc
  show hv_R X 4 0 0 (hv_QX X 0 0 0) (f_X5_freeFirst x1 mem) mem [] [(0, .ref (hv_ad X 61)), (1, .int (hv_I x1))] [] 0
  unfold f_X5_freeFirst
  refine hv_iconst hc dX5_freeFirst_0 ?_
  refine hv_istore_n (lv' := [(2, .int (hv_I 0)), (0, .ref (hv_ad X 61)), (1, .int (hv_I x1))]) hc dX5_freeFirst_1 rfl (by decide) rfl ?_
  refine hv_iconst hc dX5_freeFirst_2 ?_
  refine hv_istore_n (lv' := [(3, .int (hv_I 1)), (2, .int (hv_I 0)), (0, .ref (hv_ad X 61)), (1, .int (hv_I x1))]) hc dX5_freeFirst_3 rfl (by decide) rfl ?_
  exact hv_pick [2, 3, 1, 0] rfl (g_X5_freeFirst_4 hc hv_FU x1 0 1 mem)
def f_X5_workOn (x1 x2 x3 : Int) (mem : hMem) : hRs := hv_b (f_X5_freeFirst x3 mem) (fun r1 m2 => hv_b (f_X10_at 62 8 r1 m2) (fun r3 m4 => hv_b (f_X3_timeOf x1 m4) (fun r5 m6 => hv_set (r3 + r5) (fun y7 => hv_b (f_X10_set 62 8 r1 y7 m6) (fun r8 m9 => hv_b (f_X10_set 63 24 x2 r1 m9) (fun r10 m11 => hv_b (f_X10_set 64 24 x2 y7 m11) (fun r12 m13 => hv_b (f_J9_max_7cf53 (m13 61 5) y7 m13) (fun r14 m15 => hv_put m15 61 5 r14 (fun m16 => hv_b (f_X3_keyOf x1 m16) (fun r17 m18 => hv_set (y7 - r17) (fun y19 => hv_lt 0 y19 (hv_put m18 61 6 ((m18 61 6) + 1) (fun m20 => hv_put m20 61 7 ((m20 61 7) + y19) (fun m21 => hv_b (f_J9_max_7cf53 (m21 61 8) y19 m21) (fun r22 m23 => hv_put m23 61 8 r22 (fun m24 => hv_ret 0 m24))))) (hv_ret 0 m18))))))))))))
set_option maxRecDepth 100000 in
set_option maxHeartbeats 4000000 in
theorem c_X5_workOn (x1 x2 x3 : Int) (mem : hMem) : hv_Met 2 0 0 1 yX5_workOn cX5_workOn 7 (none) (fun ad _ _ => [.ref (ad 61), .int (hv_I x1), .int (hv_I x2), .int (hv_I x3)]) mem (f_X5_workOn x1 x2 x3 mem) := by
  refine hv_start (by decide +kernel) (fun _ _ _ => Nat.le_of_ble_eq_true rfl) ?_
  intro X hc
  have hc : hv_C X cX5_workOn 7 RX5 (none) 2 0 0 := hc
  show hv_R X 7 0 0 (hv_QX X 1 0 0) (f_X5_workOn x1 x2 x3 mem) mem [] [(0, .ref (hv_ad X 61)), (1, .int (hv_I x1)), (2, .int (hv_I x2)), (3, .int (hv_I x3))] [] 0
  unfold f_X5_workOn
  refine hv_aload_n hc dX5_workOn_0 rfl (hv_m 0 rfl) ?_
  refine hv_iload_n hc dX5_workOn_1 rfl (hv_m 3 rfl) ?_
  refine hv_callVi hc (c_X5_freeFirst x3 mem) yv_X5_freeFirst tw_1057 sh_o_61 rfl rfl rfl rfl (Nat.le_of_ble_eq_true rfl) (Nat.le_of_ble_eq_true rfl) (Nat.zero_le _) (Nat.zero_le _) dX5_workOn_2 (fun r1 m2 => ?_)
  refine hv_istore (lv' := [(4, .int (hv_I r1)), (0, .ref (hv_ad X 61)), (1, .int (hv_I x1)), (2, .int (hv_I x2)), (3, .int (hv_I x3))]) hc dX5_workOn_5 (by decide) rfl ?_
  refine hv_aload_n hc dX5_workOn_7 rfl (hv_m 1 rfl) ?_
  refine hv_getR hc fl_X5_9 sh_o_61 rfl dX5_workOn_8 ?_
  refine hv_iload hc dX5_workOn_11 (hv_m 0 rfl) ?_
  refine hv_callSNi hc (c_X10_at 62 8 sh_a_62 (Nat.le_of_ble_eq_true rfl) r1 m2) ys_X10_at nl_20 rfl rfl rfl (Nat.le_of_ble_eq_true rfl) (Nat.le_of_ble_eq_true rfl) (Nat.zero_le _) (Nat.zero_le _) dX5_workOn_13 (fun r3 m4 => ?_)
  refine hv_aload_n hc dX5_workOn_16 rfl (hv_m 1 rfl) ?_
  refine hv_getR hc fl_X5_21 sh_o_61 rfl dX5_workOn_17 ?_
  refine hv_iload_n hc dX5_workOn_20 rfl (hv_m 2 rfl) ?_
  refine hv_callVi hc (c_X3_timeOf x1 m4) yv_X3_timeOf tw_1062 sh_o_11 rfl rfl rfl rfl (Nat.le_of_ble_eq_true rfl) (Nat.le_of_ble_eq_true rfl) (Nat.zero_le _) (Nat.zero_le _) dX5_workOn_21 (fun r5 m6 => ?_)
  refine hv_iadd hc dX5_workOn_24 ?_
  refine hv_istore_s (lvf := fun y7 => [(5, .int (hv_I y7)), (4, .int (hv_I r1)), (0, .ref (hv_ad X 61)), (1, .int (hv_I x1)), (2, .int (hv_I x2)), (3, .int (hv_I x3))]) hc dX5_workOn_25 (by decide) (fun _ => rfl) (fun y7 => ?_)
  refine hv_aload_n hc dX5_workOn_27 rfl (hv_m 2 rfl) ?_
  refine hv_getR hc fl_X5_9 sh_o_61 rfl dX5_workOn_28 ?_
  refine hv_iload hc dX5_workOn_31 (hv_m 1 rfl) ?_
  refine hv_iload hc dX5_workOn_33 (hv_m 0 rfl) ?_
  refine hv_callSNv hc (c_X10_set 62 8 sh_a_62 (Nat.le_of_ble_eq_true rfl) r1 y7 m6) ys_X10_set nl_19 rfl rfl rfl (Nat.le_of_ble_eq_true rfl) (Nat.le_of_ble_eq_true rfl) (Nat.zero_le _) (Nat.zero_le _) dX5_workOn_35 (fun r8 m9 => ?_)
  refine hv_aload_n hc dX5_workOn_38 rfl (hv_m 2 rfl) ?_
  refine hv_getR hc fl_X5_15 sh_o_61 rfl dX5_workOn_39 ?_
  refine hv_iload_n hc dX5_workOn_42 rfl (hv_m 4 rfl) ?_
  refine hv_iload hc dX5_workOn_43 (hv_m 1 rfl) ?_
  refine hv_callSNv hc (c_X10_set 63 24 sh_a_63 (Nat.le_of_ble_eq_true rfl) x2 r1 m9) ys_X10_set nl_19 rfl rfl rfl (Nat.le_of_ble_eq_true rfl) (Nat.le_of_ble_eq_true rfl) (Nat.zero_le _) (Nat.zero_le _) dX5_workOn_45 (fun r10 m11 => ?_)
  refine hv_aload_n hc dX5_workOn_48 rfl (hv_m 2 rfl) ?_
  refine hv_getR hc fl_X5_18 sh_o_61 rfl dX5_workOn_49 ?_
  refine hv_iload_n hc dX5_workOn_52 rfl (hv_m 4 rfl) ?_
  refine hv_iload hc dX5_workOn_53 (hv_m 0 rfl) ?_
  refine hv_callSNv hc (c_X10_set 64 24 sh_a_64 (Nat.le_of_ble_eq_true rfl) x2 y7 m11) ys_X10_set nl_19 rfl rfl rfl (Nat.le_of_ble_eq_true rfl) (Nat.le_of_ble_eq_true rfl) (Nat.zero_le _) (Nat.zero_le _) dX5_workOn_55 (fun r12 m13 => ?_)
  refine hv_aload_n hc dX5_workOn_58 rfl (hv_m 2 rfl) ?_
  refine hv_aload_n hc dX5_workOn_59 rfl (hv_m 2 rfl) ?_
  refine hv_getI hc fl_X5_25 sh_o_61 rfl dX5_workOn_60 ?_
  refine hv_iload hc dX5_workOn_63 (hv_m 0 rfl) ?_
  refine hv_callSi hc (c_J9_max_7cf53 (m13 61 5) y7 m13) ys_J9_max_7cf53 tw_1063 rfl rfl rfl (Nat.le_of_ble_eq_true rfl) (Nat.le_of_ble_eq_true rfl) (Nat.zero_le _) (Nat.zero_le _) dX5_workOn_65 (fun r14 m15 => ?_)
  refine hv_putI hc fp_X5_25 sh_o_61 rfl dX5_workOn_68 (fun m16 => ?_)
  refine hv_iload hc dX5_workOn_71 (hv_m 0 rfl) ?_
  refine hv_aload_n hc dX5_workOn_73 rfl (hv_m 2 rfl) ?_
  refine hv_getR hc fl_X5_21 sh_o_61 rfl dX5_workOn_74 ?_
  refine hv_iload_n hc dX5_workOn_77 rfl (hv_m 3 rfl) ?_
  refine hv_callVi hc (c_X3_keyOf x1 m16) yv_X3_keyOf tw_1064 sh_o_11 rfl rfl rfl rfl (Nat.le_of_ble_eq_true rfl) (Nat.le_of_ble_eq_true rfl) (Nat.zero_le _) (Nat.zero_le _) dX5_workOn_78 (fun r17 m18 => ?_)
  refine hv_isub hc dX5_workOn_81 ?_
  refine hv_istore_s (lvf := fun y19 => [(6, .int (hv_I y19)), (5, .int (hv_I y7)), (4, .int (hv_I r1)), (0, .ref (hv_ad X 61)), (1, .int (hv_I x1)), (2, .int (hv_I x2)), (3, .int (hv_I x3))]) hc dX5_workOn_82 (by decide) (fun _ => rfl) (fun y19 => ?_)
  refine hv_iload hc dX5_workOn_84 (hv_m 0 rfl) ?_
  refine hv_if_le (tgt := 123) hc dX5_workOn_86 (by decide) ?_ ?_
  · exact hv_vret hc dX5_workOn_123
  · refine hv_aload_n hc dX5_workOn_89 rfl (hv_m 3 rfl) ?_
    refine hv_dup hc dX5_workOn_90 rfl ?_
    refine hv_getI hc fl_X5_29 sh_o_61 rfl dX5_workOn_91 ?_
    refine hv_iconst hc dX5_workOn_94 ?_
    refine hv_iadd hc dX5_workOn_95 ?_
    refine hv_putI hc fp_X5_29 sh_o_61 rfl dX5_workOn_96 (fun m20 => ?_)
    refine hv_aload_n hc dX5_workOn_99 rfl (hv_m 3 rfl) ?_
    refine hv_dup hc dX5_workOn_100 rfl ?_
    refine hv_getI hc fl_X5_32 sh_o_61 rfl dX5_workOn_101 ?_
    refine hv_iload hc dX5_workOn_104 (hv_m 0 rfl) ?_
    refine hv_iadd hc dX5_workOn_106 ?_
    refine hv_putI hc fp_X5_32 sh_o_61 rfl dX5_workOn_107 (fun m21 => ?_)
    refine hv_aload_n hc dX5_workOn_110 rfl (hv_m 3 rfl) ?_
    refine hv_aload_n hc dX5_workOn_111 rfl (hv_m 3 rfl) ?_
    refine hv_getI hc fl_X5_35 sh_o_61 rfl dX5_workOn_112 ?_
    refine hv_iload hc dX5_workOn_115 (hv_m 0 rfl) ?_
    refine hv_callSi hc (c_J9_max_7cf53 (m21 61 8) y19 m21) ys_J9_max_7cf53 tw_1063 rfl rfl rfl (Nat.le_of_ble_eq_true rfl) (Nat.le_of_ble_eq_true rfl) (Nat.zero_le _) (Nat.zero_le _) dX5_workOn_117 (fun r22 m23 => ?_)
    refine hv_putI hc fp_X5_35 sh_o_61 rfl dX5_workOn_120 (fun m24 => ?_)
    exact hv_vret hc dX5_workOn_123
def B_X5_work_58 (b1 : Nat) (R58 : Int → Int → Int → hMem → hRs) (x2 x3 x4 : Int) (mem : hMem) : hRs := hv_lt x4 (mem 61 4) (hv_b (f_X0_jobAt b1 x2 x4 mem) (fun r1 m2 => hv_b (f_X5_workOn r1 x4 x3 m2) (fun r3 m4 => hv_set (x4 + 1) (fun y5 => R58 x2 x3 y5 m4)))) (hv_ret 0 mem)
def L_X5_work_58 (b1 : Nat) : Nat → Int → Int → Int → hMem → hRs
  | 0 => fun _ _ _ _ => none
  | n + 1 => B_X5_work_58 b1 (L_X5_work_58 b1 n)
set_option maxRecDepth 100000 in
theorem gB_X5_work_58 {X : hv_X} (hc : hv_C X cX5_work 5 RX5 (none) 3 0 0) (b1 : Nat) (hb1 : b1 = 20 ∨ b1 = 23) (R58 : Int → Int → Int → hMem → hRs) (hR58 : ∀ (x2 x3 x4 : Int) (mem : hMem), hv_R X 5 0 0 (hv_QX X 1 0 0) (R58 x2 x3 x4 mem) mem [] [(0, .ref (hv_ad X 61)), (1, .ref (hv_ad X b1)), (2, .int (hv_I x2)), (3, .int (hv_I x3)), (4, .int (hv_I x4))] [] 58) (x2 x3 x4 : Int) (mem : hMem) : hv_R X 5 0 0 (hv_QX X 1 0 0) (B_X5_work_58 b1 R58 x2 x3 x4 mem) mem [] [(0, .ref (hv_ad X 61)), (1, .ref (hv_ad X b1)), (2, .int (hv_I x2)), (3, .int (hv_I x3)), (4, .int (hv_I x4))] [] 58 := by
  unfold B_X5_work_58
  refine hv_iload hc dX5_work_58 (hv_m 4 rfl) ?_
  refine hv_aload_n hc dX5_work_60 rfl (hv_m 0 rfl) ?_
  refine hv_getI hc fl_X5_38 sh_o_61 rfl dX5_work_61 ?_
  refine hv_icmp_ge (tgt := 87) hc dX5_work_64 (by decide) ?_ ?_
  · exact hv_vret hc dX5_work_87
  · refine hv_aload_n hc dX5_work_67 rfl (hv_m 0 rfl) ?_
    refine hv_aload_n hc dX5_work_68 rfl (hv_m 1 rfl) ?_
    refine hv_iload_n hc dX5_work_69 rfl (hv_m 2 rfl) ?_
    refine hv_iload hc dX5_work_70 (hv_m 4 rfl) ?_
    refine hv_callVi hc (c_X0_jobAt b1 hb1 x2 x4 mem) yv_X0_jobAt tw_1052 (sh_X0 hb1) rfl rfl rfl rfl (Nat.le_of_ble_eq_true rfl) (Nat.le_of_ble_eq_true rfl) (Nat.zero_le _) (Nat.zero_le _) dX5_work_72 (fun r1 m2 => ?_)
    refine hv_iload hc dX5_work_75 (hv_m 4 rfl) ?_
    refine hv_iload_n hc dX5_work_77 rfl (hv_m 3 rfl) ?_
    refine hv_callVv hc (c_X5_workOn r1 x4 x3 m2) yv_X5_workOn tw_1053 sh_o_61 rfl rfl rfl rfl (Nat.le_of_ble_eq_true rfl) (Nat.le_of_ble_eq_true rfl) (Nat.zero_le _) (Nat.zero_le _) dX5_work_78 (fun r3 m4 => ?_)
    refine hv_iinc_s (lvf := fun y5 => [(4, .int (hv_I y5)), (0, .ref (hv_ad X 61)), (1, .ref (hv_ad X b1)), (2, .int (hv_I x2)), (3, .int (hv_I x3))]) hc dX5_work_81 (by decide) (hv_m 4 rfl) (fun _ => rfl) (fun y5 => ?_)
    refine hv_goto (tgt := 58) hc dX5_work_84 (by decide) ?_
    exact hv_pick [1, 2, 3, 4, 0] rfl (hR58 x2 x3 y5 m4)
theorem g_X5_work_58 {X : hv_X} (hc : hv_C X cX5_work 5 RX5 (none) 3 0 0) (b1 : Nat) (hb1 : b1 = 20 ∨ b1 = 23) : ∀ (n : Nat) (x2 x3 x4 : Int) (mem : hMem), hv_R X 5 0 0 (hv_QX X 1 0 0) (L_X5_work_58 b1 n x2 x3 x4 mem) mem [] [(0, .ref (hv_ad X 61)), (1, .ref (hv_ad X b1)), (2, .int (hv_I x2)), (3, .int (hv_I x3)), (4, .int (hv_I x4))] [] 58 := by
  intro n
  induction n with
  | zero => intros; exact hv_none
  | succ n ih => exact gB_X5_work_58 hc b1 hb1 _ ih
def B_X5_work_32 (b1 : Nat) (R32 : Int → Int → Int → hMem → hRs) (x2 x3 x4 : Int) (mem : hMem) : hRs := hv_lt x4 8 (hv_b (f_X10_set 62 8 x4 0 mem) (fun r1 m2 => hv_set (x4 + 1) (fun y3 => R32 x2 x3 y3 m2))) (L_X5_work_58 b1 hv_FU x2 x3 0 mem)
def L_X5_work_32 (b1 : Nat) : Nat → Int → Int → Int → hMem → hRs
  | 0 => fun _ _ _ _ => none
  | n + 1 => B_X5_work_32 b1 (L_X5_work_32 b1 n)
set_option maxRecDepth 100000 in
theorem gB_X5_work_32 {X : hv_X} (hc : hv_C X cX5_work 5 RX5 (none) 3 0 0) (b1 : Nat) (hb1 : b1 = 20 ∨ b1 = 23) (R32 : Int → Int → Int → hMem → hRs) (hR32 : ∀ (x2 x3 x4 : Int) (mem : hMem), hv_R X 5 0 0 (hv_QX X 1 0 0) (R32 x2 x3 x4 mem) mem [] [(0, .ref (hv_ad X 61)), (1, .ref (hv_ad X b1)), (2, .int (hv_I x2)), (3, .int (hv_I x3)), (4, .int (hv_I x4))] [] 32) (x2 x3 x4 : Int) (mem : hMem) : hv_R X 5 0 0 (hv_QX X 1 0 0) (B_X5_work_32 b1 R32 x2 x3 x4 mem) mem [] [(0, .ref (hv_ad X 61)), (1, .ref (hv_ad X b1)), (2, .int (hv_I x2)), (3, .int (hv_I x3)), (4, .int (hv_I x4))] [] 32 := by
  unfold B_X5_work_32
  refine hv_iload hc dX5_work_32 (hv_m 4 rfl) ?_
  refine hv_bipush hc dX5_work_34 (by decide) ?_
  refine hv_icmp_ge (tgt := 55) hc dX5_work_36 (by decide) ?_ ?_
  · refine hv_iconst hc dX5_work_55 ?_
    refine hv_istore (lv' := [(4, .int (hv_I 0)), (0, .ref (hv_ad X 61)), (1, .ref (hv_ad X b1)), (2, .int (hv_I x2)), (3, .int (hv_I x3))]) hc dX5_work_56 (by decide) rfl ?_
    exact hv_pick [1, 2, 3, 4, 0] rfl (g_X5_work_58 hc b1 hb1 hv_FU x2 x3 0 mem)
  · refine hv_aload_n hc dX5_work_39 rfl (hv_m 0 rfl) ?_
    refine hv_getR hc fl_X5_9 sh_o_61 rfl dX5_work_40 ?_
    refine hv_iload hc dX5_work_43 (hv_m 4 rfl) ?_
    refine hv_iconst hc dX5_work_45 ?_
    refine hv_callSNv hc (c_X10_set 62 8 sh_a_62 (Nat.le_of_ble_eq_true rfl) x4 0 mem) ys_X10_set nl_19 rfl rfl rfl (Nat.le_of_ble_eq_true rfl) (Nat.le_of_ble_eq_true rfl) (Nat.zero_le _) (Nat.zero_le _) dX5_work_46 (fun r1 m2 => ?_)
    refine hv_iinc_s (lvf := fun y3 => [(4, .int (hv_I y3)), (0, .ref (hv_ad X 61)), (1, .ref (hv_ad X b1)), (2, .int (hv_I x2)), (3, .int (hv_I x3))]) hc dX5_work_49 (by decide) (hv_m 4 rfl) (fun _ => rfl) (fun y3 => ?_)
    refine hv_goto (tgt := 32) hc dX5_work_52 (by decide) ?_
    exact hv_pick [1, 2, 3, 4, 0] rfl (hR32 x2 x3 y3 m2)
theorem g_X5_work_32 {X : hv_X} (hc : hv_C X cX5_work 5 RX5 (none) 3 0 0) (b1 : Nat) (hb1 : b1 = 20 ∨ b1 = 23) : ∀ (n : Nat) (x2 x3 x4 : Int) (mem : hMem), hv_R X 5 0 0 (hv_QX X 1 0 0) (L_X5_work_32 b1 n x2 x3 x4 mem) mem [] [(0, .ref (hv_ad X 61)), (1, .ref (hv_ad X b1)), (2, .int (hv_I x2)), (3, .int (hv_I x3)), (4, .int (hv_I x4))] [] 32 := by
  intro n
  induction n with
  | zero => intros; exact hv_none
  | succ n ih => exact gB_X5_work_32 hc b1 hb1 _ ih
def f_X5_work (b1 : Nat) (x2 x3 : Int) (mem : hMem) : hRs := hv_put mem 61 5 0 (fun m1 => hv_put m1 61 6 0 (fun m2 => hv_put m2 61 7 0 (fun m3 => hv_put m3 61 8 0 (fun m4 => hv_b (f_X0_sizeOf b1 x2 m4) (fun r5 m6 => hv_put m6 61 4 r5 (fun m7 => L_X5_work_32 b1 hv_FU x2 x3 0 m7))))))
set_option maxRecDepth 100000 in
set_option maxHeartbeats 4000000 in
theorem c_X5_work (b1 : Nat) (hb1 : b1 = 20 ∨ b1 = 23) (x2 x3 : Int) (mem : hMem) : hv_Met 3 0 0 1 yX5_work cX5_work 5 (none) (fun ad _ _ => [.ref (ad 61), .ref (ad b1), .int (hv_I x2), .int (hv_I x3)]) mem (f_X5_work b1 x2 x3 mem) := by
  refine hv_start (by decide +kernel) (fun _ _ _ => Nat.le_of_ble_eq_true rfl) ?_
  intro X hc
  have hc : hv_C X cX5_work 5 RX5 (none) 3 0 0 := hc
  show hv_R X 5 0 0 (hv_QX X 1 0 0) (f_X5_work b1 x2 x3 mem) mem [] [(0, .ref (hv_ad X 61)), (1, .ref (hv_ad X b1)), (2, .int (hv_I x2)), (3, .int (hv_I x3))] [] 0
  unfold f_X5_work
  refine hv_aload_n hc dX5_work_0 rfl (hv_m 0 rfl) ?_
  refine hv_iconst hc dX5_work_1 ?_
  refine hv_putI hc fp_X5_25 sh_o_61 rfl dX5_work_2 (fun m1 => ?_)
  refine hv_aload_n hc dX5_work_5 rfl (hv_m 0 rfl) ?_
  refine hv_iconst hc dX5_work_6 ?_
  refine hv_putI hc fp_X5_29 sh_o_61 rfl dX5_work_7 (fun m2 => ?_)
  refine hv_aload_n hc dX5_work_10 rfl (hv_m 0 rfl) ?_
  refine hv_iconst hc dX5_work_11 ?_
  refine hv_putI hc fp_X5_32 sh_o_61 rfl dX5_work_12 (fun m3 => ?_)
  refine hv_aload_n hc dX5_work_15 rfl (hv_m 0 rfl) ?_
  refine hv_iconst hc dX5_work_16 ?_
  refine hv_putI hc fp_X5_35 sh_o_61 rfl dX5_work_17 (fun m4 => ?_)
  refine hv_aload_n hc dX5_work_20 rfl (hv_m 0 rfl) ?_
  refine hv_aload_n hc dX5_work_21 rfl (hv_m 1 rfl) ?_
  refine hv_iload_n hc dX5_work_22 rfl (hv_m 2 rfl) ?_
  refine hv_callVi hc (c_X0_sizeOf b1 hb1 x2 m4) yv_X0_sizeOf tw_1050 (sh_X0 hb1) rfl rfl rfl rfl (Nat.le_of_ble_eq_true rfl) (Nat.le_of_ble_eq_true rfl) (Nat.zero_le _) (Nat.zero_le _) dX5_work_23 (fun r5 m6 => ?_)
  refine hv_putI hc fp_X5_38 sh_o_61 rfl dX5_work_26 (fun m7 => ?_)
  refine hv_iconst hc dX5_work_29 ?_
  refine hv_istore (lv' := [(4, .int (hv_I 0)), (0, .ref (hv_ad X 61)), (1, .ref (hv_ad X b1)), (2, .int (hv_I x2)), (3, .int (hv_I x3))]) hc dX5_work_30 (by decide) rfl ?_
  exact hv_pick [1, 2, 3, 4, 0] rfl (g_X5_work_32 hc b1 hb1 hv_FU x2 x3 0 m7)
def f_X6_versions (mem : hMem) : hRs := hv_ret (mem 14 5) mem
set_option maxRecDepth 100000 in
set_option maxHeartbeats 4000000 in
theorem c_X6_versions (mem : hMem) : hv_Met 0 0 0 0 yX6_versions cX6_versions 1 (some FieldType.int) (fun ad _ _ => [.ref (ad 14)]) mem (f_X6_versions mem) := by
  refine hv_start (by decide +kernel) (fun _ _ _ => Nat.le_of_ble_eq_true rfl) ?_
  intro X hc
  have hc : hv_C X cX6_versions 1 RX6 (some FieldType.int) 0 0 0 := hc
  show hv_R X 1 0 0 (hv_QX X 0 0 0) (f_X6_versions mem) mem [] [(0, .ref (hv_ad X 14))] [] 0
  unfold f_X6_versions
  refine hv_aload_n hc dX6_versions_0 rfl (hv_m 0 rfl) ?_
  refine hv_getI hc fl_X6_27 sh_o_14 rfl dX6_versions_1 ?_
  exact hv_iret hc dX6_versions_4
def f_X6_howOf (x1 : Int) (mem : hMem) : hRs := hv_b (f_X10_at 15 30 x1 mem) (fun r1 m2 => hv_ret r1 m2)
set_option maxRecDepth 100000 in
set_option maxHeartbeats 4000000 in
theorem c_X6_howOf (x1 : Int) (mem : hMem) : hv_Met 1 0 0 0 yX6_howOf cX6_howOf 2 (some FieldType.int) (fun ad _ _ => [.ref (ad 14), .int (hv_I x1)]) mem (f_X6_howOf x1 mem) := by
  refine hv_start (by decide +kernel) (fun _ _ _ => Nat.le_of_ble_eq_true rfl) ?_
  intro X hc
  have hc : hv_C X cX6_howOf 2 RX6 (some FieldType.int) 1 0 0 := hc
  show hv_R X 2 0 0 (hv_QX X 0 0 0) (f_X6_howOf x1 mem) mem [] [(0, .ref (hv_ad X 14)), (1, .int (hv_I x1))] [] 0
  unfold f_X6_howOf
  refine hv_aload_n hc dX6_howOf_0 rfl (hv_m 0 rfl) ?_
  refine hv_getR hc fl_X6_9 sh_o_14 rfl dX6_howOf_1 ?_
  refine hv_iload_n hc dX6_howOf_4 rfl (hv_m 1 rfl) ?_
  refine hv_callSNi hc (c_X10_at 15 30 sh_a_15 (Nat.le_of_ble_eq_true rfl) x1 mem) ys_X10_at nl_9 rfl rfl rfl (Nat.le_of_ble_eq_true rfl) (Nat.le_of_ble_eq_true rfl) (Nat.zero_le _) (Nat.zero_le _) dX6_howOf_5 (fun r1 m2 => ?_)
  exact hv_iret hc dX6_howOf_8
def f_X6_firstOf (x1 : Int) (mem : hMem) : hRs := hv_b (f_X10_at 16 30 x1 mem) (fun r1 m2 => hv_ret r1 m2)
set_option maxRecDepth 100000 in
set_option maxHeartbeats 4000000 in
theorem c_X6_firstOf (x1 : Int) (mem : hMem) : hv_Met 1 0 0 0 yX6_firstOf cX6_firstOf 2 (some FieldType.int) (fun ad _ _ => [.ref (ad 14), .int (hv_I x1)]) mem (f_X6_firstOf x1 mem) := by
  refine hv_start (by decide +kernel) (fun _ _ _ => Nat.le_of_ble_eq_true rfl) ?_
  intro X hc
  have hc : hv_C X cX6_firstOf 2 RX6 (some FieldType.int) 1 0 0 := hc
  show hv_R X 2 0 0 (hv_QX X 0 0 0) (f_X6_firstOf x1 mem) mem [] [(0, .ref (hv_ad X 14)), (1, .int (hv_I x1))] [] 0
  unfold f_X6_firstOf
  refine hv_aload_n hc dX6_firstOf_0 rfl (hv_m 0 rfl) ?_
  refine hv_getR hc fl_X6_15 sh_o_14 rfl dX6_firstOf_1 ?_
  refine hv_iload_n hc dX6_firstOf_4 rfl (hv_m 1 rfl) ?_
  refine hv_callSNi hc (c_X10_at 16 30 sh_a_16 (Nat.le_of_ble_eq_true rfl) x1 mem) ys_X10_at nl_9 rfl rfl rfl (Nat.le_of_ble_eq_true rfl) (Nat.le_of_ble_eq_true rfl) (Nat.zero_le _) (Nat.zero_le _) dX6_firstOf_5 (fun r1 m2 => ?_)
  exact hv_iret hc dX6_firstOf_8
def f_X6_secondOf (x1 : Int) (mem : hMem) : hRs := hv_b (f_X10_at 17 30 x1 mem) (fun r1 m2 => hv_ret r1 m2)
set_option maxRecDepth 100000 in
set_option maxHeartbeats 4000000 in
theorem c_X6_secondOf (x1 : Int) (mem : hMem) : hv_Met 1 0 0 0 yX6_secondOf cX6_secondOf 2 (some FieldType.int) (fun ad _ _ => [.ref (ad 14), .int (hv_I x1)]) mem (f_X6_secondOf x1 mem) := by
  refine hv_start (by decide +kernel) (fun _ _ _ => Nat.le_of_ble_eq_true rfl) ?_
  intro X hc
  have hc : hv_C X cX6_secondOf 2 RX6 (some FieldType.int) 1 0 0 := hc
  show hv_R X 2 0 0 (hv_QX X 0 0 0) (f_X6_secondOf x1 mem) mem [] [(0, .ref (hv_ad X 14)), (1, .int (hv_I x1))] [] 0
  unfold f_X6_secondOf
  refine hv_aload_n hc dX6_secondOf_0 rfl (hv_m 0 rfl) ?_
  refine hv_getR hc fl_X6_18 sh_o_14 rfl dX6_secondOf_1 ?_
  refine hv_iload_n hc dX6_secondOf_4 rfl (hv_m 1 rfl) ?_
  refine hv_callSNi hc (c_X10_at 17 30 sh_a_17 (Nat.le_of_ble_eq_true rfl) x1 mem) ys_X10_at nl_9 rfl rfl rfl (Nat.le_of_ble_eq_true rfl) (Nat.le_of_ble_eq_true rfl) (Nat.zero_le _) (Nat.zero_le _) dX6_secondOf_5 (fun r1 m2 => ?_)
  exact hv_iret hc dX6_secondOf_8
def f_X6_jobOf (x1 : Int) (mem : hMem) : hRs := hv_b (f_X10_at 18 30 x1 mem) (fun r1 m2 => hv_ret r1 m2)
set_option maxRecDepth 100000 in
set_option maxHeartbeats 4000000 in
theorem c_X6_jobOf (x1 : Int) (mem : hMem) : hv_Met 1 0 0 0 yX6_jobOf cX6_jobOf 2 (some FieldType.int) (fun ad _ _ => [.ref (ad 14), .int (hv_I x1)]) mem (f_X6_jobOf x1 mem) := by
  refine hv_start (by decide +kernel) (fun _ _ _ => Nat.le_of_ble_eq_true rfl) ?_
  intro X hc
  have hc : hv_C X cX6_jobOf 2 RX6 (some FieldType.int) 1 0 0 := hc
  show hv_R X 2 0 0 (hv_QX X 0 0 0) (f_X6_jobOf x1 mem) mem [] [(0, .ref (hv_ad X 14)), (1, .int (hv_I x1))] [] 0
  unfold f_X6_jobOf
  refine hv_aload_n hc dX6_jobOf_0 rfl (hv_m 0 rfl) ?_
  refine hv_getR hc fl_X6_21 sh_o_14 rfl dX6_jobOf_1 ?_
  refine hv_iload_n hc dX6_jobOf_4 rfl (hv_m 1 rfl) ?_
  refine hv_callSNi hc (c_X10_at 18 30 sh_a_18 (Nat.le_of_ble_eq_true rfl) x1 mem) ys_X10_at nl_9 rfl rfl rfl (Nat.le_of_ble_eq_true rfl) (Nat.le_of_ble_eq_true rfl) (Nat.zero_le _) (Nat.zero_le _) dX6_jobOf_5 (fun r1 m2 => ?_)
  exact hv_iret hc dX6_jobOf_8
def f_X6_withRoots (x1 : Int) (mem : hMem) : hRs := hv_lt x1 0 (hv_ret 0 mem) (hv_b (f_X10_at 19 30 x1 mem) (fun r1 m2 => hv_ret (hv_or r1 (hv_shl 1 x1)) m2))
set_option maxRecDepth 100000 in
set_option maxHeartbeats 4000000 in
theorem c_X6_withRoots (x1 : Int) (mem : hMem) : hv_Met 1 0 0 0 yX6_withRoots cX6_withRoots 2 (some FieldType.int) (fun ad _ _ => [.ref (ad 14), .int (hv_I x1)]) mem (f_X6_withRoots x1 mem) := by
  refine hv_start (by decide +kernel) (fun _ _ _ => Nat.le_of_ble_eq_true rfl) ?_
  intro X hc
  have hc : hv_C X cX6_withRoots 2 RX6 (some FieldType.int) 1 0 0 := hc
  show hv_R X 2 0 0 (hv_QX X 0 0 0) (f_X6_withRoots x1 mem) mem [] [(0, .ref (hv_ad X 14)), (1, .int (hv_I x1))] [] 0
  unfold f_X6_withRoots
  refine hv_iload_n hc dX6_withRoots_0 rfl (hv_m 1 rfl) ?_
  refine hv_if_ge (tgt := 8) hc dX6_withRoots_1 (by decide) ?_ ?_
  · refine hv_aload_n hc dX6_withRoots_8 rfl (hv_m 0 rfl) ?_
    refine hv_getR hc fl_X6_24 sh_o_14 rfl dX6_withRoots_9 ?_
    refine hv_iload_n hc dX6_withRoots_12 rfl (hv_m 1 rfl) ?_
    refine hv_callSNi hc (c_X10_at 19 30 sh_a_19 (Nat.le_of_ble_eq_true rfl) x1 mem) ys_X10_at nl_9 rfl rfl rfl (Nat.le_of_ble_eq_true rfl) (Nat.le_of_ble_eq_true rfl) (Nat.zero_le _) (Nat.zero_le _) dX6_withRoots_13 (fun r1 m2 => ?_)
    refine hv_iconst hc dX6_withRoots_16 ?_
    refine hv_iload_n hc dX6_withRoots_17 rfl (hv_m 1 rfl) ?_
    refine hv_ishl hc dX6_withRoots_18 ?_
    refine hv_ior hc dX6_withRoots_19 ?_
    exact hv_iret hc dX6_withRoots_20
  · refine hv_iconst hc dX6_withRoots_4 ?_
    refine hv_goto (tgt := 20) hc dX6_withRoots_5 (by decide) ?_
    exact hv_iret hc dX6_withRoots_20
def f_X6_add (x1 x2 x3 x4 : Int) (mem : hMem) : hRs := hv_b (f_X10_set 15 30 (mem 14 5) x1 mem) (fun r1 m2 => hv_b (f_X10_set 16 30 (m2 14 5) x2 m2) (fun r3 m4 => hv_b (f_X10_set 17 30 (m4 14 5) x3 m4) (fun r5 m6 => hv_b (f_X10_set 18 30 (m6 14 5) x4 m6) (fun r7 m8 => hv_b (f_X6_withRoots x2 m8) (fun r9 m10 => hv_b (f_X6_withRoots x3 m10) (fun r11 m12 => hv_b (f_X10_set 19 30 (m8 14 5) (hv_or r9 r11) m12) (fun r13 m14 => hv_put m14 14 5 ((m14 14 5) + 1) (fun m15 => hv_ret 0 m15))))))))
set_option maxRecDepth 100000 in
set_option maxHeartbeats 4000000 in
theorem c_X6_add (x1 x2 x3 x4 : Int) (mem : hMem) : hv_Met 2 0 0 1 yX6_add cX6_add 5 (none) (fun ad _ _ => [.ref (ad 14), .int (hv_I x1), .int (hv_I x2), .int (hv_I x3), .int (hv_I x4)]) mem (f_X6_add x1 x2 x3 x4 mem) := by
  refine hv_start (by decide +kernel) (fun _ _ _ => Nat.le_of_ble_eq_true rfl) ?_
  intro X hc
  have hc : hv_C X cX6_add 5 RX6 (none) 2 0 0 := hc
  show hv_R X 5 0 0 (hv_QX X 1 0 0) (f_X6_add x1 x2 x3 x4 mem) mem [] [(0, .ref (hv_ad X 14)), (1, .int (hv_I x1)), (2, .int (hv_I x2)), (3, .int (hv_I x3)), (4, .int (hv_I x4))] [] 0
  unfold f_X6_add
  refine hv_aload_n hc dX6_add_0 rfl (hv_m 0 rfl) ?_
  refine hv_getR hc fl_X6_9 sh_o_14 rfl dX6_add_1 ?_
  refine hv_aload_n hc dX6_add_4 rfl (hv_m 0 rfl) ?_
  refine hv_getI hc fl_X6_27 sh_o_14 rfl dX6_add_5 ?_
  refine hv_iload_n hc dX6_add_8 rfl (hv_m 1 rfl) ?_
  refine hv_callSNv hc (c_X10_set 15 30 sh_a_15 (Nat.le_of_ble_eq_true rfl) (mem 14 5) x1 mem) ys_X10_set nl_16 rfl rfl rfl (Nat.le_of_ble_eq_true rfl) (Nat.le_of_ble_eq_true rfl) (Nat.zero_le _) (Nat.zero_le _) dX6_add_9 (fun r1 m2 => ?_)
  refine hv_aload_n hc dX6_add_12 rfl (hv_m 0 rfl) ?_
  refine hv_getR hc fl_X6_15 sh_o_14 rfl dX6_add_13 ?_
  refine hv_aload_n hc dX6_add_16 rfl (hv_m 0 rfl) ?_
  refine hv_getI hc fl_X6_27 sh_o_14 rfl dX6_add_17 ?_
  refine hv_iload_n hc dX6_add_20 rfl (hv_m 2 rfl) ?_
  refine hv_callSNv hc (c_X10_set 16 30 sh_a_16 (Nat.le_of_ble_eq_true rfl) (m2 14 5) x2 m2) ys_X10_set nl_16 rfl rfl rfl (Nat.le_of_ble_eq_true rfl) (Nat.le_of_ble_eq_true rfl) (Nat.zero_le _) (Nat.zero_le _) dX6_add_21 (fun r3 m4 => ?_)
  refine hv_aload_n hc dX6_add_24 rfl (hv_m 0 rfl) ?_
  refine hv_getR hc fl_X6_18 sh_o_14 rfl dX6_add_25 ?_
  refine hv_aload_n hc dX6_add_28 rfl (hv_m 0 rfl) ?_
  refine hv_getI hc fl_X6_27 sh_o_14 rfl dX6_add_29 ?_
  refine hv_iload_n hc dX6_add_32 rfl (hv_m 3 rfl) ?_
  refine hv_callSNv hc (c_X10_set 17 30 sh_a_17 (Nat.le_of_ble_eq_true rfl) (m4 14 5) x3 m4) ys_X10_set nl_16 rfl rfl rfl (Nat.le_of_ble_eq_true rfl) (Nat.le_of_ble_eq_true rfl) (Nat.zero_le _) (Nat.zero_le _) dX6_add_33 (fun r5 m6 => ?_)
  refine hv_aload_n hc dX6_add_36 rfl (hv_m 0 rfl) ?_
  refine hv_getR hc fl_X6_21 sh_o_14 rfl dX6_add_37 ?_
  refine hv_aload_n hc dX6_add_40 rfl (hv_m 0 rfl) ?_
  refine hv_getI hc fl_X6_27 sh_o_14 rfl dX6_add_41 ?_
  refine hv_iload hc dX6_add_44 (hv_m 4 rfl) ?_
  refine hv_callSNv hc (c_X10_set 18 30 sh_a_18 (Nat.le_of_ble_eq_true rfl) (m6 14 5) x4 m6) ys_X10_set nl_16 rfl rfl rfl (Nat.le_of_ble_eq_true rfl) (Nat.le_of_ble_eq_true rfl) (Nat.zero_le _) (Nat.zero_le _) dX6_add_46 (fun r7 m8 => ?_)
  refine hv_aload_n hc dX6_add_49 rfl (hv_m 0 rfl) ?_
  refine hv_getR hc fl_X6_24 sh_o_14 rfl dX6_add_50 ?_
  refine hv_aload_n hc dX6_add_53 rfl (hv_m 0 rfl) ?_
  refine hv_getI hc fl_X6_27 sh_o_14 rfl dX6_add_54 ?_
  refine hv_aload_n hc dX6_add_57 rfl (hv_m 0 rfl) ?_
  refine hv_iload_n hc dX6_add_58 rfl (hv_m 2 rfl) ?_
  refine hv_callVi hc (c_X6_withRoots x2 m8) yv_X6_withRoots tw_778 sh_o_14 rfl rfl rfl rfl (Nat.le_of_ble_eq_true rfl) (Nat.le_of_ble_eq_true rfl) (Nat.zero_le _) (Nat.zero_le _) dX6_add_59 (fun r9 m10 => ?_)
  refine hv_aload_n hc dX6_add_62 rfl (hv_m 0 rfl) ?_
  refine hv_iload_n hc dX6_add_63 rfl (hv_m 3 rfl) ?_
  refine hv_callVi hc (c_X6_withRoots x3 m10) yv_X6_withRoots tw_778 sh_o_14 rfl rfl rfl rfl (Nat.le_of_ble_eq_true rfl) (Nat.le_of_ble_eq_true rfl) (Nat.zero_le _) (Nat.zero_le _) dX6_add_64 (fun r11 m12 => ?_)
  refine hv_ior hc dX6_add_67 ?_
  refine hv_callSNv hc (c_X10_set 19 30 sh_a_19 (Nat.le_of_ble_eq_true rfl) (m8 14 5) (hv_or r9 r11) m12) ys_X10_set nl_16 rfl rfl rfl (Nat.le_of_ble_eq_true rfl) (Nat.le_of_ble_eq_true rfl) (Nat.zero_le _) (Nat.zero_le _) dX6_add_68 (fun r13 m14 => ?_)
  refine hv_aload_n hc dX6_add_71 rfl (hv_m 0 rfl) ?_
  refine hv_dup hc dX6_add_72 rfl ?_
  refine hv_getI hc fl_X6_27 sh_o_14 rfl dX6_add_73 ?_
  refine hv_iconst hc dX6_add_76 ?_
  refine hv_iadd hc dX6_add_77 ?_
  refine hv_putI hc fp_X6_27 sh_o_14 rfl dX6_add_78 (fun m15 => ?_)
  exact hv_vret hc dX6_add_81
def f_X6_cut (x1 : Int) (mem : hMem) : hRs := hv_put mem 14 5 x1 (fun m1 => hv_ret 0 m1)
set_option maxRecDepth 100000 in
set_option maxHeartbeats 4000000 in
theorem c_X6_cut (x1 : Int) (mem : hMem) : hv_Met 0 0 0 1 yX6_cut cX6_cut 2 (none) (fun ad _ _ => [.ref (ad 14), .int (hv_I x1)]) mem (f_X6_cut x1 mem) := by
  refine hv_start (by decide +kernel) (fun _ _ _ => Nat.le_of_ble_eq_true rfl) ?_
  intro X hc
  have hc : hv_C X cX6_cut 2 RX6 (none) 0 0 0 := hc
  show hv_R X 2 0 0 (hv_QX X 1 0 0) (f_X6_cut x1 mem) mem [] [(0, .ref (hv_ad X 14)), (1, .int (hv_I x1))] [] 0
  unfold f_X6_cut
  refine hv_aload_n hc dX6_cut_0 rfl (hv_m 0 rfl) ?_
  refine hv_iload_n hc dX6_cut_1 rfl (hv_m 1 rfl) ?_
  refine hv_putI hc fp_X6_27 sh_o_14 rfl dX6_cut_2 (fun m1 => ?_)
  exact hv_vret hc dX6_cut_5
def B_X6_putsFrom_4 (R4 : Int → Int → hMem → hRs) (x2 x3 : Int) (mem : hMem) : hRs := hv_lt x3 (mem 14 5) (hv_b (f_X6_howOf x3 mem) (fun r1 m2 => hv_eq r1 1 (hv_set (x2 + 1) (fun y4 => hv_set (x3 + 1) (fun y5 => R4 y4 y5 m2))) (hv_set (x3 + 1) (fun y3 => R4 x2 y3 m2)))) (hv_ret x2 mem)
def L_X6_putsFrom_4 : Nat → Int → Int → hMem → hRs
  | 0 => fun _ _ _ => none
  | n + 1 => B_X6_putsFrom_4 (L_X6_putsFrom_4 n)
set_option maxRecDepth 100000 in
theorem gB_X6_putsFrom_4 {X : hv_X} (hc : hv_C X cX6_putsFrom 4 RX6 (some FieldType.int) 2 0 0) (R4 : Int → Int → hMem → hRs) (hR4 : ∀ (x2 x3 : Int) (mem : hMem), hv_R X 4 0 0 (hv_QX X 0 0 0) (R4 x2 x3 mem) mem [] [(0, .ref (hv_ad X 14)), (2, .int (hv_I x2)), (3, .int (hv_I x3))] [] 4) (x2 x3 : Int) (mem : hMem) : hv_R X 4 0 0 (hv_QX X 0 0 0) (B_X6_putsFrom_4 R4 x2 x3 mem) mem [] [(0, .ref (hv_ad X 14)), (2, .int (hv_I x2)), (3, .int (hv_I x3))] [] 4 := by
  unfold B_X6_putsFrom_4
  refine hv_iload_n hc dX6_putsFrom_4 rfl (hv_m 2 rfl) ?_
  refine hv_aload_n hc dX6_putsFrom_5 rfl (hv_m 0 rfl) ?_
  refine hv_getI hc fl_X6_27 sh_o_14 rfl dX6_putsFrom_6 ?_
  refine hv_icmp_ge (tgt := 30) hc dX6_putsFrom_9 (by decide) ?_ ?_
  · refine hv_iload_n hc dX6_putsFrom_30 rfl (hv_m 1 rfl) ?_
    exact hv_iret hc dX6_putsFrom_31
  · refine hv_aload_n hc dX6_putsFrom_12 rfl (hv_m 0 rfl) ?_
    refine hv_iload_n hc dX6_putsFrom_13 rfl (hv_m 2 rfl) ?_
    refine hv_callVi hc (c_X6_howOf x3 mem) yv_X6_howOf tw_540 sh_o_14 rfl rfl rfl rfl (Nat.le_of_ble_eq_true rfl) (Nat.le_of_ble_eq_true rfl) (Nat.zero_le _) (Nat.zero_le _) dX6_putsFrom_14 (fun r1 m2 => ?_)
    refine hv_iconst hc dX6_putsFrom_17 ?_
    refine hv_icmp_ne (tgt := 24) hc dX6_putsFrom_18 (by decide) ?_ ?_
    · refine hv_iinc_s (lvf := fun y3 => [(3, .int (hv_I y3)), (0, .ref (hv_ad X 14)), (2, .int (hv_I x2))]) hc dX6_putsFrom_24 (by decide) (hv_m 2 rfl) (fun _ => rfl) (fun y3 => ?_)
      refine hv_goto (tgt := 4) hc dX6_putsFrom_27 (by decide) ?_
      exact hv_pick [1, 2, 0] rfl (hR4 x2 y3 m2)
    · refine hv_iinc_s (lvf := fun y4 => [(2, .int (hv_I y4)), (0, .ref (hv_ad X 14)), (3, .int (hv_I x3))]) hc dX6_putsFrom_21 (by decide) (hv_m 1 rfl) (fun _ => rfl) (fun y4 => ?_)
      refine hv_iinc_s (lvf := fun y5 => [(3, .int (hv_I y5)), (2, .int (hv_I y4)), (0, .ref (hv_ad X 14))]) hc dX6_putsFrom_24 (by decide) (hv_m 2 rfl) (fun _ => rfl) (fun y5 => ?_)
      refine hv_goto (tgt := 4) hc dX6_putsFrom_27 (by decide) ?_
      exact hv_pick [2, 1, 0] rfl (hR4 y4 y5 m2)
theorem g_X6_putsFrom_4 {X : hv_X} (hc : hv_C X cX6_putsFrom 4 RX6 (some FieldType.int) 2 0 0) : ∀ (n : Nat) (x2 x3 : Int) (mem : hMem), hv_R X 4 0 0 (hv_QX X 0 0 0) (L_X6_putsFrom_4 n x2 x3 mem) mem [] [(0, .ref (hv_ad X 14)), (2, .int (hv_I x2)), (3, .int (hv_I x3))] [] 4 := by
  intro n
  induction n with
  | zero => intros; exact hv_none
  | succ n ih => exact gB_X6_putsFrom_4 hc _ ih
def f_X6_putsFrom (x1 : Int) (mem : hMem) : hRs := L_X6_putsFrom_4 hv_FU 0 x1 mem
set_option maxRecDepth 100000 in
set_option maxHeartbeats 4000000 in
theorem c_X6_putsFrom (x1 : Int) (mem : hMem) : hv_Met 2 0 0 0 yX6_putsFrom cX6_putsFrom 4 (some FieldType.int) (fun ad _ _ => [.ref (ad 14), .int (hv_I x1)]) mem (f_X6_putsFrom x1 mem) := by
  refine hv_start (by decide +kernel) (fun _ _ _ => Nat.le_of_ble_eq_true rfl) ?_
  intro X hc
  have hc : hv_C X cX6_putsFrom 4 RX6 (some FieldType.int) 2 0 0 := hc
  show hv_R X 4 0 0 (hv_QX X 0 0 0) (f_X6_putsFrom x1 mem) mem [] [(0, .ref (hv_ad X 14)), (1, .int (hv_I x1))] [] 0
  unfold f_X6_putsFrom
  refine hv_iconst hc dX6_putsFrom_0 ?_
  refine hv_istore_n (lv' := [(2, .int (hv_I 0)), (0, .ref (hv_ad X 14)), (1, .int (hv_I x1))]) hc dX6_putsFrom_1 rfl (by decide) rfl ?_
  refine hv_iload_n hc dX6_putsFrom_2 rfl (hv_m 2 rfl) ?_
  refine hv_istore_n (lv' := [(3, .int (hv_I x1)), (2, .int (hv_I 0)), (0, .ref (hv_ad X 14)), (1, .int (hv_I x1))]) hc dX6_putsFrom_3 rfl (by decide) rfl ?_
  exact hv_pick [2, 1, 0] rfl (g_X6_putsFrom_4 hc hv_FU 0 x1 mem)
def f_X6_madeOf (x1 x2 : Int) (mem : hMem) : hRs := hv_b (f_X10_at 19 30 x1 mem) (fun r1 m2 => hv_eq (hv_and r1 (hv_shl 1 x2)) 0 (hv_zr 0 m2) (hv_zr 1 m2))
set_option maxRecDepth 100000 in
set_option maxHeartbeats 4000000 in
theorem c_X6_madeOf (x1 x2 : Int) (mem : hMem) : hv_Met 1 0 0 0 yX6_madeOf cX6_madeOf 3 (some FieldType.boolean) (fun ad _ _ => [.ref (ad 14), .int (hv_I x1), .int (hv_I x2)]) mem (f_X6_madeOf x1 x2 mem) := by
  refine hv_start (by decide +kernel) (fun _ _ _ => Nat.le_of_ble_eq_true rfl) ?_
  intro X hc
  have hc : hv_C X cX6_madeOf 3 RX6 (some FieldType.boolean) 1 0 0 := hc
  show hv_R X 3 0 0 (hv_QX X 0 0 0) (f_X6_madeOf x1 x2 mem) mem [] [(0, .ref (hv_ad X 14)), (1, .int (hv_I x1)), (2, .int (hv_I x2))] [] 0
  unfold f_X6_madeOf
  refine hv_aload_n hc dX6_madeOf_0 rfl (hv_m 0 rfl) ?_
  refine hv_getR hc fl_X6_24 sh_o_14 rfl dX6_madeOf_1 ?_
  refine hv_iload_n hc dX6_madeOf_4 rfl (hv_m 1 rfl) ?_
  refine hv_callSNi hc (c_X10_at 19 30 sh_a_19 (Nat.le_of_ble_eq_true rfl) x1 mem) ys_X10_at nl_9 rfl rfl rfl (Nat.le_of_ble_eq_true rfl) (Nat.le_of_ble_eq_true rfl) (Nat.zero_le _) (Nat.zero_le _) dX6_madeOf_5 (fun r1 m2 => ?_)
  refine hv_iconst hc dX6_madeOf_8 ?_
  refine hv_iload_n hc dX6_madeOf_9 rfl (hv_m 2 rfl) ?_
  refine hv_ishl hc dX6_madeOf_10 ?_
  refine hv_iand hc dX6_madeOf_11 ?_
  refine hv_if_eq (tgt := 19) hc dX6_madeOf_12 (by decide) ?_ ?_
  · refine hv_iconst hc dX6_madeOf_19 ?_
    exact hv_zret hc dX6_madeOf_20
  · refine hv_iconst hc dX6_madeOf_15 ?_
    refine hv_goto (tgt := 20) hc dX6_madeOf_16 (by decide) ?_
    exact hv_zret hc dX6_madeOf_20
def f_J6_bitCount_0f7a4 (x0 : Int) (mem : hMem) : hRs := hv_set (x0 - (hv_and (hv_ushr x0 1) 1431655765)) (fun y1 => hv_set ((hv_and y1 858993459) + (hv_and (hv_ushr y1 2) 858993459)) (fun y2 => hv_set (hv_and (y2 + (hv_ushr y2 4)) 252645135) (fun y3 => hv_set (y3 + (hv_ushr y3 8)) (fun y4 => hv_set (y4 + (hv_ushr y4 16)) (fun y5 => hv_ret (hv_and y5 63) mem)))))
set_option maxRecDepth 100000 in
set_option maxHeartbeats 4000000 in
theorem c_J6_bitCount_0f7a4 (x0 : Int) (mem : hMem) : hv_Met 0 0 0 0 yJ6_bitCount_0f7a4 cJ6_bitCount_0f7a4 1 (some FieldType.int) (fun _ _ _ => [.int (hv_I x0)]) mem (f_J6_bitCount_0f7a4 x0 mem) := by
  refine hv_start (by decide +kernel) (fun _ _ _ => Nat.le_of_ble_eq_true rfl) ?_
  intro X hc
  have hc : hv_C X cJ6_bitCount_0f7a4 1 RJ6 (some FieldType.int) 0 0 0 := hc
  show hv_R X 1 0 0 (hv_QX X 0 0 0) (f_J6_bitCount_0f7a4 x0 mem) mem [] [(0, .int (hv_I x0))] [] 0
  unfold f_J6_bitCount_0f7a4
  refine hv_iload_n hc dJ6_bitCount_0f7a4_0 rfl (hv_m 0 rfl) ?_
  refine hv_iload_n hc dJ6_bitCount_0f7a4_1 rfl (hv_m 0 rfl) ?_
  refine hv_iconst hc dJ6_bitCount_0f7a4_2 ?_
  refine hv_iushr hc dJ6_bitCount_0f7a4_3 ?_
  refine hv_ldcw (n := 1431655765) hc tw_1026 (by decide) dJ6_bitCount_0f7a4_4 ?_
  refine hv_iand hc dJ6_bitCount_0f7a4_7 ?_
  refine hv_isub hc dJ6_bitCount_0f7a4_8 ?_
  refine hv_istore_ns (lvf := fun y1 => [(0, .int (hv_I y1))]) hc dJ6_bitCount_0f7a4_9 rfl (by decide) (fun _ => rfl) (fun y1 => ?_)
  refine hv_iload_n hc dJ6_bitCount_0f7a4_10 rfl (hv_m 0 rfl) ?_
  refine hv_ldcw (n := 858993459) hc tw_1027 (by decide) dJ6_bitCount_0f7a4_11 ?_
  refine hv_iand hc dJ6_bitCount_0f7a4_14 ?_
  refine hv_iload_n hc dJ6_bitCount_0f7a4_15 rfl (hv_m 0 rfl) ?_
  refine hv_iconst hc dJ6_bitCount_0f7a4_16 ?_
  refine hv_iushr hc dJ6_bitCount_0f7a4_17 ?_
  refine hv_ldcw (n := 858993459) hc tw_1027 (by decide) dJ6_bitCount_0f7a4_18 ?_
  refine hv_iand hc dJ6_bitCount_0f7a4_21 ?_
  refine hv_iadd hc dJ6_bitCount_0f7a4_22 ?_
  refine hv_istore_ns (lvf := fun y2 => [(0, .int (hv_I y2))]) hc dJ6_bitCount_0f7a4_23 rfl (by decide) (fun _ => rfl) (fun y2 => ?_)
  refine hv_iload_n hc dJ6_bitCount_0f7a4_24 rfl (hv_m 0 rfl) ?_
  refine hv_iload_n hc dJ6_bitCount_0f7a4_25 rfl (hv_m 0 rfl) ?_
  refine hv_iconst hc dJ6_bitCount_0f7a4_26 ?_
  refine hv_iushr hc dJ6_bitCount_0f7a4_27 ?_
  refine hv_iadd hc dJ6_bitCount_0f7a4_28 ?_
  refine hv_ldcw (n := 252645135) hc tw_1028 (by decide) dJ6_bitCount_0f7a4_29 ?_
  refine hv_iand hc dJ6_bitCount_0f7a4_32 ?_
  refine hv_istore_ns (lvf := fun y3 => [(0, .int (hv_I y3))]) hc dJ6_bitCount_0f7a4_33 rfl (by decide) (fun _ => rfl) (fun y3 => ?_)
  refine hv_iload_n hc dJ6_bitCount_0f7a4_34 rfl (hv_m 0 rfl) ?_
  refine hv_iload_n hc dJ6_bitCount_0f7a4_35 rfl (hv_m 0 rfl) ?_
  refine hv_bipush hc dJ6_bitCount_0f7a4_36 (by decide) ?_
  refine hv_iushr hc dJ6_bitCount_0f7a4_38 ?_
  refine hv_iadd hc dJ6_bitCount_0f7a4_39 ?_
  refine hv_istore_ns (lvf := fun y4 => [(0, .int (hv_I y4))]) hc dJ6_bitCount_0f7a4_40 rfl (by decide) (fun _ => rfl) (fun y4 => ?_)
  refine hv_iload_n hc dJ6_bitCount_0f7a4_41 rfl (hv_m 0 rfl) ?_
  refine hv_iload_n hc dJ6_bitCount_0f7a4_42 rfl (hv_m 0 rfl) ?_
  refine hv_bipush hc dJ6_bitCount_0f7a4_43 (by decide) ?_
  refine hv_iushr hc dJ6_bitCount_0f7a4_45 ?_
  refine hv_iadd hc dJ6_bitCount_0f7a4_46 ?_
  refine hv_istore_ns (lvf := fun y5 => [(0, .int (hv_I y5))]) hc dJ6_bitCount_0f7a4_47 rfl (by decide) (fun _ => rfl) (fun y5 => ?_)
  refine hv_iload_n hc dJ6_bitCount_0f7a4_48 rfl (hv_m 0 rfl) ?_
  refine hv_bipush hc dJ6_bitCount_0f7a4_49 (by decide) ?_
  refine hv_iand hc dJ6_bitCount_0f7a4_51 ?_
  exact hv_iret hc dJ6_bitCount_0f7a4_52
def f_X6_rootsOf (x1 : Int) (mem : hMem) : hRs := hv_b (f_X10_at 19 30 x1 mem) (fun r1 m2 => hv_b (f_J6_bitCount_0f7a4 r1 m2) (fun r3 m4 => hv_ret r3 m4))
set_option maxRecDepth 100000 in
set_option maxHeartbeats 4000000 in
theorem c_X6_rootsOf (x1 : Int) (mem : hMem) : hv_Met 1 0 0 0 yX6_rootsOf cX6_rootsOf 2 (some FieldType.int) (fun ad _ _ => [.ref (ad 14), .int (hv_I x1)]) mem (f_X6_rootsOf x1 mem) := by
  refine hv_start (by decide +kernel) (fun _ _ _ => Nat.le_of_ble_eq_true rfl) ?_
  intro X hc
  have hc : hv_C X cX6_rootsOf 2 RX6 (some FieldType.int) 1 0 0 := hc
  show hv_R X 2 0 0 (hv_QX X 0 0 0) (f_X6_rootsOf x1 mem) mem [] [(0, .ref (hv_ad X 14)), (1, .int (hv_I x1))] [] 0
  unfold f_X6_rootsOf
  refine hv_aload_n hc dX6_rootsOf_0 rfl (hv_m 0 rfl) ?_
  refine hv_getR hc fl_X6_24 sh_o_14 rfl dX6_rootsOf_1 ?_
  refine hv_iload_n hc dX6_rootsOf_4 rfl (hv_m 1 rfl) ?_
  refine hv_callSNi hc (c_X10_at 19 30 sh_a_19 (Nat.le_of_ble_eq_true rfl) x1 mem) ys_X10_at nl_9 rfl rfl rfl (Nat.le_of_ble_eq_true rfl) (Nat.le_of_ble_eq_true rfl) (Nat.zero_le _) (Nat.zero_le _) dX6_rootsOf_5 (fun r1 m2 => ?_)
  refine hv_callSi hc (c_J6_bitCount_0f7a4 r1 m2) ys_J6_bitCount_0f7a4 tw_1023 rfl rfl rfl (Nat.le_of_ble_eq_true rfl) (Nat.le_of_ble_eq_true rfl) (Nat.zero_le _) (Nat.zero_le _) dX6_rootsOf_8 (fun r3 m4 => ?_)
  exact hv_iret hc dX6_rootsOf_11
def B_X7_add_3 (R3 : Int → Int → hMem → hRs) (x1 x2 : Int) (mem : hMem) : hRs := hv_lt x2 0 (hv_ret 0 mem) (hv_b (f_X10_set 2 600 (mem 1 1) (hv_and (hv_ushr x1 x2) 255) mem) (fun r1 m2 => hv_put m2 1 1 ((m2 1 1) + 1) (fun m3 => hv_set (x2 + (-8)) (fun y4 => R3 x1 y4 m3))))
def L_X7_add_3 : Nat → Int → Int → hMem → hRs
  | 0 => fun _ _ _ => none
  | n + 1 => B_X7_add_3 (L_X7_add_3 n)
set_option maxRecDepth 100000 in
theorem gB_X7_add_3 {X : hv_X} (hc : hv_C X cX7_add 3 RX7 (none) 1 0 0) (R3 : Int → Int → hMem → hRs) (hR3 : ∀ (x1 x2 : Int) (mem : hMem), hv_R X 3 0 0 (hv_QX X 1 0 0) (R3 x1 x2 mem) mem [] [(0, .ref (hv_ad X 1)), (1, .int (hv_I x1)), (2, .int (hv_I x2))] [] 3) (x1 x2 : Int) (mem : hMem) : hv_R X 3 0 0 (hv_QX X 1 0 0) (B_X7_add_3 R3 x1 x2 mem) mem [] [(0, .ref (hv_ad X 1)), (1, .int (hv_I x1)), (2, .int (hv_I x2))] [] 3 := by
  unfold B_X7_add_3
  refine hv_iload_n hc dX7_add_3 rfl (hv_m 2 rfl) ?_
  refine hv_if_lt (tgt := 41) hc dX7_add_4 (by decide) ?_ ?_
  · exact hv_vret hc dX7_add_41
  · refine hv_aload_n hc dX7_add_7 rfl (hv_m 0 rfl) ?_
    refine hv_getR hc fl_X7_9 sh_o_1 rfl dX7_add_8 ?_
    refine hv_aload_n hc dX7_add_11 rfl (hv_m 0 rfl) ?_
    refine hv_getI hc fl_X7_15 sh_o_1 rfl dX7_add_12 ?_
    refine hv_iload_n hc dX7_add_15 rfl (hv_m 1 rfl) ?_
    refine hv_iload_n hc dX7_add_16 rfl (hv_m 2 rfl) ?_
    refine hv_iushr hc dX7_add_17 ?_
    refine hv_sipush hc dX7_add_18 (by decide) ?_
    refine hv_iand hc dX7_add_21 ?_
    refine hv_callSNv hc (c_X10_set 2 600 sh_a_2 (Nat.le_of_ble_eq_true rfl) (mem 1 1) (hv_and (hv_ushr x1 x2) 255) mem) ys_X10_set nl_6 rfl rfl rfl (Nat.le_of_ble_eq_true rfl) (Nat.le_of_ble_eq_true rfl) (Nat.zero_le _) (Nat.zero_le _) dX7_add_22 (fun r1 m2 => ?_)
    refine hv_aload_n hc dX7_add_25 rfl (hv_m 0 rfl) ?_
    refine hv_dup hc dX7_add_26 rfl ?_
    refine hv_getI hc fl_X7_15 sh_o_1 rfl dX7_add_27 ?_
    refine hv_iconst hc dX7_add_30 ?_
    refine hv_iadd hc dX7_add_31 ?_
    refine hv_putI hc fp_X7_15 sh_o_1 rfl dX7_add_32 (fun m3 => ?_)
    refine hv_iinc_s (lvf := fun y4 => [(2, .int (hv_I y4)), (0, .ref (hv_ad X 1)), (1, .int (hv_I x1))]) hc dX7_add_35 (by decide) (hv_m 2 rfl) (fun _ => rfl) (fun y4 => ?_)
    refine hv_goto (tgt := 3) hc dX7_add_38 (by decide) ?_
    exact hv_pick [1, 2, 0] rfl (hR3 x1 y4 m3)
theorem g_X7_add_3 {X : hv_X} (hc : hv_C X cX7_add 3 RX7 (none) 1 0 0) : ∀ (n : Nat) (x1 x2 : Int) (mem : hMem), hv_R X 3 0 0 (hv_QX X 1 0 0) (L_X7_add_3 n x1 x2 mem) mem [] [(0, .ref (hv_ad X 1)), (1, .int (hv_I x1)), (2, .int (hv_I x2))] [] 3 := by
  intro n
  induction n with
  | zero => intros; exact hv_none
  | succ n ih => exact gB_X7_add_3 hc _ ih
def f_X7_add (x1 : Int) (mem : hMem) : hRs := L_X7_add_3 hv_FU x1 24 mem
set_option maxRecDepth 100000 in
set_option maxHeartbeats 4000000 in
theorem c_X7_add (x1 : Int) (mem : hMem) : hv_Met 1 0 0 1 yX7_add cX7_add 3 (none) (fun ad _ _ => [.ref (ad 1), .int (hv_I x1)]) mem (f_X7_add x1 mem) := by
  refine hv_start (by decide +kernel) (fun _ _ _ => Nat.le_of_ble_eq_true rfl) ?_
  intro X hc
  have hc : hv_C X cX7_add 3 RX7 (none) 1 0 0 := hc
  show hv_R X 3 0 0 (hv_QX X 1 0 0) (f_X7_add x1 mem) mem [] [(0, .ref (hv_ad X 1)), (1, .int (hv_I x1))] [] 0
  unfold f_X7_add
  refine hv_bipush hc dX7_add_0 (by decide) ?_
  refine hv_istore_n (lv' := [(2, .int (hv_I 24)), (0, .ref (hv_ad X 1)), (1, .int (hv_I x1))]) hc dX7_add_2 rfl (by decide) rfl ?_
  exact hv_pick [1, 2, 0] rfl (g_X7_add_3 hc hv_FU x1 24 mem)
def f_X7_cut (x1 : Int) (mem : hMem) : hRs := hv_put mem 1 1 x1 (fun m1 => hv_ret 0 m1)
set_option maxRecDepth 100000 in
set_option maxHeartbeats 4000000 in
theorem c_X7_cut (x1 : Int) (mem : hMem) : hv_Met 0 0 0 1 yX7_cut cX7_cut 2 (none) (fun ad _ _ => [.ref (ad 1), .int (hv_I x1)]) mem (f_X7_cut x1 mem) := by
  refine hv_start (by decide +kernel) (fun _ _ _ => Nat.le_of_ble_eq_true rfl) ?_
  intro X hc
  have hc : hv_C X cX7_cut 2 RX7 (none) 0 0 0 := hc
  show hv_R X 2 0 0 (hv_QX X 1 0 0) (f_X7_cut x1 mem) mem [] [(0, .ref (hv_ad X 1)), (1, .int (hv_I x1))] [] 0
  unfold f_X7_cut
  refine hv_aload_n hc dX7_cut_0 rfl (hv_m 0 rfl) ?_
  refine hv_iload_n hc dX7_cut_1 rfl (hv_m 1 rfl) ?_
  refine hv_putI hc fp_X7_15 sh_o_1 rfl dX7_cut_2 (fun m1 => ?_)
  exact hv_vret hc dX7_cut_5
def f_X9_begin (mem : hMem) : hRs := hv_put mem 58 2 ((mem 58 2) + 1) (fun m1 => hv_put m1 58 3 0 (fun m2 => hv_ret 0 m2))
set_option maxRecDepth 100000 in
set_option maxHeartbeats 4000000 in
theorem c_X9_begin (mem : hMem) : hv_Met 0 0 0 1 yX9_begin cX9_begin 1 (none) (fun ad _ _ => [.ref (ad 58)]) mem (f_X9_begin mem) := by
  refine hv_start (by decide +kernel) (fun _ _ _ => Nat.le_of_ble_eq_true rfl) ?_
  intro X hc
  have hc : hv_C X cX9_begin 1 RX9 (none) 0 0 0 := hc
  show hv_R X 1 0 0 (hv_QX X 1 0 0) (f_X9_begin mem) mem [] [(0, .ref (hv_ad X 58))] [] 0
  unfold f_X9_begin
  refine hv_aload_n hc dX9_begin_0 rfl (hv_m 0 rfl) ?_
  refine hv_dup hc dX9_begin_1 rfl ?_
  refine hv_getI hc fl_X9_18 sh_o_58 rfl dX9_begin_2 ?_
  refine hv_iconst hc dX9_begin_5 ?_
  refine hv_iadd hc dX9_begin_6 ?_
  refine hv_putI hc fp_X9_18 sh_o_58 rfl dX9_begin_7 (fun m1 => ?_)
  refine hv_aload_n hc dX9_begin_10 rfl (hv_m 0 rfl) ?_
  refine hv_iconst hc dX9_begin_11 ?_
  refine hv_putI hc fp_X9_22 sh_o_58 rfl dX9_begin_12 (fun m2 => ?_)
  exact hv_vret hc dX9_begin_15
def f_X9_met (mem : hMem) : hRs := hv_ret (mem 58 3) mem
set_option maxRecDepth 100000 in
set_option maxHeartbeats 4000000 in
theorem c_X9_met (mem : hMem) : hv_Met 0 0 0 0 yX9_met cX9_met 1 (some FieldType.int) (fun ad _ _ => [.ref (ad 58)]) mem (f_X9_met mem) := by
  refine hv_start (by decide +kernel) (fun _ _ _ => Nat.le_of_ble_eq_true rfl) ?_
  intro X hc
  have hc : hv_C X cX9_met 1 RX9 (some FieldType.int) 0 0 0 := hc
  show hv_R X 1 0 0 (hv_QX X 0 0 0) (f_X9_met mem) mem [] [(0, .ref (hv_ad X 58))] [] 0
  unfold f_X9_met
  refine hv_aload_n hc dX9_met_0 rfl (hv_m 0 rfl) ?_
  refine hv_getI hc fl_X9_22 sh_o_58 rfl dX9_met_1 ?_
  exact hv_iret hc dX9_met_4
def f_X9_meet (x1 : Int) (mem : hMem) : hRs := hv_eq x1 0 (hv_ret 0 mem) (hv_b (f_X10_at 59 864 x1 mem) (fun r1 m2 => hv_eq r1 (m2 58 2) (hv_ret 0 m2) (hv_b (f_X10_set 59 864 x1 (m2 58 2) m2) (fun r3 m4 => hv_b (f_X10_set 60 864 (m4 58 3) x1 m4) (fun r5 m6 => hv_put m6 58 3 ((m6 58 3) + 1) (fun m7 => hv_ret 0 m7))))))
set_option maxRecDepth 100000 in
set_option maxHeartbeats 4000000 in
theorem c_X9_meet (x1 : Int) (mem : hMem) : hv_Met 1 0 0 1 yX9_meet cX9_meet 2 (none) (fun ad _ _ => [.ref (ad 58), .int (hv_I x1)]) mem (f_X9_meet x1 mem) := by
  refine hv_start (by decide +kernel) (fun _ _ _ => Nat.le_of_ble_eq_true rfl) ?_
  intro X hc
  have hc : hv_C X cX9_meet 2 RX9 (none) 1 0 0 := hc
  show hv_R X 2 0 0 (hv_QX X 1 0 0) (f_X9_meet x1 mem) mem [] [(0, .ref (hv_ad X 58)), (1, .int (hv_I x1))] [] 0
  unfold f_X9_meet
  refine hv_iload_n hc dX9_meet_0 rfl (hv_m 1 rfl) ?_
  refine hv_if_eq (tgt := 53) hc dX9_meet_1 (by decide) ?_ ?_
  · exact hv_vret hc dX9_meet_53
  · refine hv_aload_n hc dX9_meet_4 rfl (hv_m 0 rfl) ?_
    refine hv_getR hc fl_X9_9 sh_o_58 rfl dX9_meet_5 ?_
    refine hv_iload_n hc dX9_meet_8 rfl (hv_m 1 rfl) ?_
    refine hv_callSNi hc (c_X10_at 59 864 sh_a_59 (Nat.le_of_ble_eq_true rfl) x1 mem) ys_X10_at nl_17 rfl rfl rfl (Nat.le_of_ble_eq_true rfl) (Nat.le_of_ble_eq_true rfl) (Nat.zero_le _) (Nat.zero_le _) dX9_meet_9 (fun r1 m2 => ?_)
    refine hv_aload_n hc dX9_meet_12 rfl (hv_m 0 rfl) ?_
    refine hv_getI hc fl_X9_18 sh_o_58 rfl dX9_meet_13 ?_
    refine hv_icmp_eq (tgt := 53) hc dX9_meet_16 (by decide) ?_ ?_
    · exact hv_vret hc dX9_meet_53
    · refine hv_aload_n hc dX9_meet_19 rfl (hv_m 0 rfl) ?_
      refine hv_getR hc fl_X9_9 sh_o_58 rfl dX9_meet_20 ?_
      refine hv_iload_n hc dX9_meet_23 rfl (hv_m 1 rfl) ?_
      refine hv_aload_n hc dX9_meet_24 rfl (hv_m 0 rfl) ?_
      refine hv_getI hc fl_X9_18 sh_o_58 rfl dX9_meet_25 ?_
      refine hv_callSNv hc (c_X10_set 59 864 sh_a_59 (Nat.le_of_ble_eq_true rfl) x1 (m2 58 2) m2) ys_X10_set nl_18 rfl rfl rfl (Nat.le_of_ble_eq_true rfl) (Nat.le_of_ble_eq_true rfl) (Nat.zero_le _) (Nat.zero_le _) dX9_meet_28 (fun r3 m4 => ?_)
      refine hv_aload_n hc dX9_meet_31 rfl (hv_m 0 rfl) ?_
      refine hv_getR hc fl_X9_15 sh_o_58 rfl dX9_meet_32 ?_
      refine hv_aload_n hc dX9_meet_35 rfl (hv_m 0 rfl) ?_
      refine hv_getI hc fl_X9_22 sh_o_58 rfl dX9_meet_36 ?_
      refine hv_iload_n hc dX9_meet_39 rfl (hv_m 1 rfl) ?_
      refine hv_callSNv hc (c_X10_set 60 864 sh_a_60 (Nat.le_of_ble_eq_true rfl) (m4 58 3) x1 m4) ys_X10_set nl_18 rfl rfl rfl (Nat.le_of_ble_eq_true rfl) (Nat.le_of_ble_eq_true rfl) (Nat.zero_le _) (Nat.zero_le _) dX9_meet_40 (fun r5 m6 => ?_)
      refine hv_aload_n hc dX9_meet_43 rfl (hv_m 0 rfl) ?_
      refine hv_dup hc dX9_meet_44 rfl ?_
      refine hv_getI hc fl_X9_22 sh_o_58 rfl dX9_meet_45 ?_
      refine hv_iconst hc dX9_meet_48 ?_
      refine hv_iadd hc dX9_meet_49 ?_
      refine hv_putI hc fp_X9_22 sh_o_58 rfl dX9_meet_50 (fun m7 => ?_)
      exact hv_vret hc dX9_meet_53
def B_X9_meetAll_5 (b1 : Nat) (R5 : Int → Int → hMem → hRs) (x3 x4 : Int) (mem : hMem) : hRs := hv_lt x4 2592 (hv_eq x3 0 (hv_ret 0 mem) (hv_b (f_X1_firstOf b1 x3 mem) (fun r1 m2 => hv_b (f_X9_meet r1 m2) (fun r3 m4 => hv_b (f_X1_restOf b1 x3 m4) (fun r5 m6 => hv_set (x4 + 1) (fun y7 => R5 r5 y7 m6)))))) (hv_ret 0 mem)
def L_X9_meetAll_5 (b1 : Nat) : Nat → Int → Int → hMem → hRs
  | 0 => fun _ _ _ => none
  | n + 1 => B_X9_meetAll_5 b1 (L_X9_meetAll_5 b1 n)
set_option maxRecDepth 100000 in
theorem gB_X9_meetAll_5 {X : hv_X} (hc : hv_C X cX9_meetAll 5 RX9 (none) 2 0 0) (b1 : Nat) (hb1 : b1 = 27 ∨ b1 = 43) (R5 : Int → Int → hMem → hRs) (hR5 : ∀ (x3 x4 : Int) (mem : hMem), hv_R X 5 0 0 (hv_QX X 1 0 0) (R5 x3 x4 mem) mem [] [(0, .ref (hv_ad X 58)), (1, .ref (hv_ad X b1)), (3, .int (hv_I x3)), (4, .int (hv_I x4))] [] 5) (x3 x4 : Int) (mem : hMem) : hv_R X 5 0 0 (hv_QX X 1 0 0) (B_X9_meetAll_5 b1 R5 x3 x4 mem) mem [] [(0, .ref (hv_ad X 58)), (1, .ref (hv_ad X b1)), (3, .int (hv_I x3)), (4, .int (hv_I x4))] [] 5 := by
  unfold B_X9_meetAll_5
  refine hv_iload hc dX9_meetAll_5 (hv_m 3 rfl) ?_
  refine hv_sipush hc dX9_meetAll_7 (by decide) ?_
  refine hv_icmp_ge (tgt := 38) hc dX9_meetAll_10 (by decide) ?_ ?_
  · exact hv_vret hc dX9_meetAll_38
  · refine hv_iload_n hc dX9_meetAll_13 rfl (hv_m 2 rfl) ?_
    refine hv_if_eq (tgt := 38) hc dX9_meetAll_14 (by decide) ?_ ?_
    · exact hv_vret hc dX9_meetAll_38
    · refine hv_aload_n hc dX9_meetAll_17 rfl (hv_m 0 rfl) ?_
      refine hv_aload_n hc dX9_meetAll_18 rfl (hv_m 1 rfl) ?_
      refine hv_iload_n hc dX9_meetAll_19 rfl (hv_m 2 rfl) ?_
      refine hv_callVi hc (c_X1_firstOf b1 hb1 x3 mem) yv_X1_firstOf tw_938 (sh_X1 hb1) rfl rfl rfl rfl (Nat.le_of_ble_eq_true rfl) (Nat.le_of_ble_eq_true rfl) (Nat.zero_le _) (Nat.zero_le _) dX9_meetAll_20 (fun r1 m2 => ?_)
      refine hv_callVv hc (c_X9_meet r1 m2) yv_X9_meet tw_926 sh_o_58 rfl rfl rfl rfl (Nat.le_of_ble_eq_true rfl) (Nat.le_of_ble_eq_true rfl) (Nat.zero_le _) (Nat.zero_le _) dX9_meetAll_23 (fun r3 m4 => ?_)
      refine hv_aload_n hc dX9_meetAll_26 rfl (hv_m 1 rfl) ?_
      refine hv_iload_n hc dX9_meetAll_27 rfl (hv_m 2 rfl) ?_
      refine hv_callVi hc (c_X1_restOf b1 hb1 x3 m4) yv_X1_restOf tw_939 (sh_X1 hb1) rfl rfl rfl rfl (Nat.le_of_ble_eq_true rfl) (Nat.le_of_ble_eq_true rfl) (Nat.zero_le _) (Nat.zero_le _) dX9_meetAll_28 (fun r5 m6 => ?_)
      refine hv_istore_n (lv' := [(3, .int (hv_I r5)), (0, .ref (hv_ad X 58)), (1, .ref (hv_ad X b1)), (4, .int (hv_I x4))]) hc dX9_meetAll_31 rfl (by decide) rfl ?_
      refine hv_iinc_s (lvf := fun y7 => [(4, .int (hv_I y7)), (3, .int (hv_I r5)), (0, .ref (hv_ad X 58)), (1, .ref (hv_ad X b1))]) hc dX9_meetAll_32 (by decide) (hv_m 3 rfl) (fun _ => rfl) (fun y7 => ?_)
      refine hv_goto (tgt := 5) hc dX9_meetAll_35 (by decide) ?_
      exact hv_pick [2, 3, 1, 0] rfl (hR5 r5 y7 m6)
theorem g_X9_meetAll_5 {X : hv_X} (hc : hv_C X cX9_meetAll 5 RX9 (none) 2 0 0) (b1 : Nat) (hb1 : b1 = 27 ∨ b1 = 43) : ∀ (n : Nat) (x3 x4 : Int) (mem : hMem), hv_R X 5 0 0 (hv_QX X 1 0 0) (L_X9_meetAll_5 b1 n x3 x4 mem) mem [] [(0, .ref (hv_ad X 58)), (1, .ref (hv_ad X b1)), (3, .int (hv_I x3)), (4, .int (hv_I x4))] [] 5 := by
  intro n
  induction n with
  | zero => intros; exact hv_none
  | succ n ih => exact gB_X9_meetAll_5 hc b1 hb1 _ ih
def f_X9_meetAll (b1 : Nat) (x2 : Int) (mem : hMem) : hRs := L_X9_meetAll_5 b1 hv_FU x2 0 mem
set_option maxRecDepth 100000 in
set_option maxHeartbeats 4000000 in
theorem c_X9_meetAll (b1 : Nat) (hb1 : b1 = 27 ∨ b1 = 43) (x2 : Int) (mem : hMem) : hv_Met 2 0 0 1 yX9_meetAll cX9_meetAll 5 (none) (fun ad _ _ => [.ref (ad 58), .ref (ad b1), .int (hv_I x2)]) mem (f_X9_meetAll b1 x2 mem) := by
  refine hv_start (by decide +kernel) (fun _ _ _ => Nat.le_of_ble_eq_true rfl) ?_
  intro X hc
  have hc : hv_C X cX9_meetAll 5 RX9 (none) 2 0 0 := hc
  show hv_R X 5 0 0 (hv_QX X 1 0 0) (f_X9_meetAll b1 x2 mem) mem [] [(0, .ref (hv_ad X 58)), (1, .ref (hv_ad X b1)), (2, .int (hv_I x2))] [] 0
  unfold f_X9_meetAll
  refine hv_iload_n hc dX9_meetAll_0 rfl (hv_m 2 rfl) ?_
  refine hv_istore_n (lv' := [(3, .int (hv_I x2)), (0, .ref (hv_ad X 58)), (1, .ref (hv_ad X b1)), (2, .int (hv_I x2))]) hc dX9_meetAll_1 rfl (by decide) rfl ?_
  refine hv_iconst hc dX9_meetAll_2 ?_
  refine hv_istore (lv' := [(4, .int (hv_I 0)), (3, .int (hv_I x2)), (0, .ref (hv_ad X 58)), (1, .ref (hv_ad X b1)), (2, .int (hv_I x2))]) hc dX9_meetAll_3 (by decide) rfl ?_
  exact hv_pick [2, 3, 1, 0] rfl (g_X9_meetAll_5 hc b1 hb1 hv_FU x2 0 mem)
def B_X9_over_10 (b1 : Nat) (R10 : Int → hMem → hRs) (x3 : Int) (mem : hMem) : hRs := hv_lt x3 (mem 58 3) (hv_lt x3 864 (hv_b (f_X10_at 60 864 x3 mem) (fun r1 m2 => hv_b (f_X1_headOf b1 r1 m2) (fun r3 m4 => hv_b (f_X9_meet r3 m4) (fun r5 m6 => hv_b (f_X1_singlesOf b1 r1 m6) (fun r7 m8 => hv_b (f_X9_meetAll b1 r7 m8) (fun r9 m10 => hv_b (f_X1_belowOf b1 r1 m10) (fun r11 m12 => hv_b (f_X9_meetAll b1 r11 m12) (fun r13 m14 => hv_set (x3 + 1) (fun y15 => R10 y15 m14))))))))) (hv_ret 0 mem)) (hv_ret 0 mem)
def L_X9_over_10 (b1 : Nat) : Nat → Int → hMem → hRs
  | 0 => fun _ _ => none
  | n + 1 => B_X9_over_10 b1 (L_X9_over_10 b1 n)
set_option maxRecDepth 100000 in
theorem gB_X9_over_10 {X : hv_X} (hc : hv_C X cX9_over 5 RX9 (none) 3 0 0) (b1 : Nat) (hb1 : b1 = 27 ∨ b1 = 43) (R10 : Int → hMem → hRs) (hR10 : ∀ (x3 : Int) (mem : hMem), hv_R X 5 0 0 (hv_QX X 1 0 0) (R10 x3 mem) mem [] [(0, .ref (hv_ad X 58)), (1, .ref (hv_ad X b1)), (3, .int (hv_I x3))] [] 10) (x3 : Int) (mem : hMem) : hv_R X 5 0 0 (hv_QX X 1 0 0) (B_X9_over_10 b1 R10 x3 mem) mem [] [(0, .ref (hv_ad X 58)), (1, .ref (hv_ad X b1)), (3, .int (hv_I x3))] [] 10 := by
  unfold B_X9_over_10
  refine hv_iload_n hc dX9_over_10 rfl (hv_m 2 rfl) ?_
  refine hv_aload_n hc dX9_over_11 rfl (hv_m 0 rfl) ?_
  refine hv_getI hc fl_X9_22 sh_o_58 rfl dX9_over_12 ?_
  refine hv_icmp_ge (tgt := 73) hc dX9_over_15 (by decide) ?_ ?_
  · exact hv_vret hc dX9_over_73
  · refine hv_iload_n hc dX9_over_18 rfl (hv_m 2 rfl) ?_
    refine hv_sipush hc dX9_over_19 (by decide) ?_
    refine hv_icmp_ge (tgt := 73) hc dX9_over_22 (by decide) ?_ ?_
    · exact hv_vret hc dX9_over_73
    · refine hv_aload_n hc dX9_over_25 rfl (hv_m 0 rfl) ?_
      refine hv_getR hc fl_X9_15 sh_o_58 rfl dX9_over_26 ?_
      refine hv_iload_n hc dX9_over_29 rfl (hv_m 2 rfl) ?_
      refine hv_callSNi hc (c_X10_at 60 864 sh_a_60 (Nat.le_of_ble_eq_true rfl) x3 mem) ys_X10_at nl_17 rfl rfl rfl (Nat.le_of_ble_eq_true rfl) (Nat.le_of_ble_eq_true rfl) (Nat.zero_le _) (Nat.zero_le _) dX9_over_30 (fun r1 m2 => ?_)
      refine hv_istore (lv' := [(4, .int (hv_I r1)), (0, .ref (hv_ad X 58)), (1, .ref (hv_ad X b1)), (3, .int (hv_I x3))]) hc dX9_over_33 (by decide) rfl ?_
      refine hv_aload_n hc dX9_over_35 rfl (hv_m 1 rfl) ?_
      refine hv_aload_n hc dX9_over_36 rfl (hv_m 2 rfl) ?_
      refine hv_iload hc dX9_over_37 (hv_m 0 rfl) ?_
      refine hv_callVi hc (c_X1_headOf b1 hb1 r1 m2) yv_X1_headOf tw_932 (sh_X1 hb1) rfl rfl rfl rfl (Nat.le_of_ble_eq_true rfl) (Nat.le_of_ble_eq_true rfl) (Nat.zero_le _) (Nat.zero_le _) dX9_over_39 (fun r3 m4 => ?_)
      refine hv_callVv hc (c_X9_meet r3 m4) yv_X9_meet tw_926 sh_o_58 rfl rfl rfl rfl (Nat.le_of_ble_eq_true rfl) (Nat.le_of_ble_eq_true rfl) (Nat.zero_le _) (Nat.zero_le _) dX9_over_42 (fun r5 m6 => ?_)
      refine hv_aload_n hc dX9_over_45 rfl (hv_m 1 rfl) ?_
      refine hv_aload_n hc dX9_over_46 rfl (hv_m 2 rfl) ?_
      refine hv_aload_n hc dX9_over_47 rfl (hv_m 2 rfl) ?_
      refine hv_iload hc dX9_over_48 (hv_m 0 rfl) ?_
      refine hv_callVi hc (c_X1_singlesOf b1 hb1 r1 m6) yv_X1_singlesOf tw_933 (sh_X1 hb1) rfl rfl rfl rfl (Nat.le_of_ble_eq_true rfl) (Nat.le_of_ble_eq_true rfl) (Nat.zero_le _) (Nat.zero_le _) dX9_over_50 (fun r7 m8 => ?_)
      refine hv_callVv hc (c_X9_meetAll b1 hb1 r7 m8) yv_X9_meetAll tw_934 sh_o_58 rfl rfl rfl rfl (Nat.le_of_ble_eq_true rfl) (Nat.le_of_ble_eq_true rfl) (Nat.zero_le _) (Nat.zero_le _) dX9_over_53 (fun r9 m10 => ?_)
      refine hv_aload_n hc dX9_over_56 rfl (hv_m 1 rfl) ?_
      refine hv_aload_n hc dX9_over_57 rfl (hv_m 2 rfl) ?_
      refine hv_aload_n hc dX9_over_58 rfl (hv_m 2 rfl) ?_
      refine hv_iload hc dX9_over_59 (hv_m 0 rfl) ?_
      refine hv_callVi hc (c_X1_belowOf b1 hb1 r1 m10) yv_X1_belowOf tw_940 (sh_X1 hb1) rfl rfl rfl rfl (Nat.le_of_ble_eq_true rfl) (Nat.le_of_ble_eq_true rfl) (Nat.zero_le _) (Nat.zero_le _) dX9_over_61 (fun r11 m12 => ?_)
      refine hv_callVv hc (c_X9_meetAll b1 hb1 r11 m12) yv_X9_meetAll tw_934 sh_o_58 rfl rfl rfl rfl (Nat.le_of_ble_eq_true rfl) (Nat.le_of_ble_eq_true rfl) (Nat.zero_le _) (Nat.zero_le _) dX9_over_64 (fun r13 m14 => ?_)
      refine hv_iinc_s (lvf := fun y15 => [(3, .int (hv_I y15)), (4, .int (hv_I r1)), (0, .ref (hv_ad X 58)), (1, .ref (hv_ad X b1))]) hc dX9_over_67 (by decide) (hv_m 3 rfl) (fun _ => rfl) (fun y15 => ?_)
      refine hv_goto (tgt := 10) hc dX9_over_70 (by decide) ?_
      exact hv_pick [2, 3, 0] rfl (hR10 y15 m14)
theorem g_X9_over_10 {X : hv_X} (hc : hv_C X cX9_over 5 RX9 (none) 3 0 0) (b1 : Nat) (hb1 : b1 = 27 ∨ b1 = 43) : ∀ (n : Nat) (x3 : Int) (mem : hMem), hv_R X 5 0 0 (hv_QX X 1 0 0) (L_X9_over_10 b1 n x3 mem) mem [] [(0, .ref (hv_ad X 58)), (1, .ref (hv_ad X b1)), (3, .int (hv_I x3))] [] 10 := by
  intro n
  induction n with
  | zero => intros; exact hv_none
  | succ n ih => exact gB_X9_over_10 hc b1 hb1 _ ih
def f_X9_over (b1 : Nat) (x2 : Int) (mem : hMem) : hRs := hv_set (mem 58 3) (fun y1 => hv_b (f_X9_meet x2 mem) (fun r2 m3 => L_X9_over_10 b1 hv_FU y1 m3))
set_option maxRecDepth 100000 in
set_option maxHeartbeats 4000000 in
theorem c_X9_over (b1 : Nat) (hb1 : b1 = 27 ∨ b1 = 43) (x2 : Int) (mem : hMem) : hv_Met 3 0 0 1 yX9_over cX9_over 5 (none) (fun ad _ _ => [.ref (ad 58), .ref (ad b1), .int (hv_I x2)]) mem (f_X9_over b1 x2 mem) := by
  refine hv_start (by decide +kernel) (fun _ _ _ => Nat.le_of_ble_eq_true rfl) ?_
  intro X hc
  have hc : hv_C X cX9_over 5 RX9 (none) 3 0 0 := hc
  show hv_R X 5 0 0 (hv_QX X 1 0 0) (f_X9_over b1 x2 mem) mem [] [(0, .ref (hv_ad X 58)), (1, .ref (hv_ad X b1)), (2, .int (hv_I x2))] [] 0
  unfold f_X9_over
  refine hv_aload_n hc dX9_over_0 rfl (hv_m 0 rfl) ?_
  refine hv_getI hc fl_X9_22 sh_o_58 rfl dX9_over_1 ?_
  refine hv_istore_ns (lvf := fun y1 => [(3, .int (hv_I y1)), (0, .ref (hv_ad X 58)), (1, .ref (hv_ad X b1)), (2, .int (hv_I x2))]) hc dX9_over_4 rfl (by decide) (fun _ => rfl) (fun y1 => ?_)
  refine hv_aload_n hc dX9_over_5 rfl (hv_m 1 rfl) ?_
  refine hv_iload_n hc dX9_over_6 rfl (hv_m 3 rfl) ?_
  refine hv_callVv hc (c_X9_meet x2 mem) yv_X9_meet tw_926 sh_o_58 rfl rfl rfl rfl (Nat.le_of_ble_eq_true rfl) (Nat.le_of_ble_eq_true rfl) (Nat.zero_le _) (Nat.zero_le _) dX9_over_7 (fun r2 m3 => ?_)
  exact hv_pick [1, 2, 0] rfl (g_X9_over_10 hc b1 hb1 hv_FU y1 m3)
