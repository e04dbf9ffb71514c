def f_X10_feed (x1 x2 x3 x4 x5 : Int) (mem : hMem) : hRs := hv_b (f_X7_length mem) (fun r1 m2 => hv_lt 600 (r1 + 20) (hv_ret ((-1)) m2) (hv_b (f_X7_add x1 m2) (fun r3 m4 => hv_b (f_X7_add x2 m4) (fun r5 m6 => hv_b (f_X7_add x3 m6) (fun r7 m8 => hv_b (f_X7_add x4 m8) (fun r9 m10 => hv_b (f_X7_add x5 m10) (fun r11 m12 => hv_b (f_X7_length m12) (fun r13 m14 => hv_ret r13 m14))))))))
set_option maxRecDepth 100000 in
set_option maxHeartbeats 4000000 in
theorem c_X10_feed (x1 x2 x3 x4 x5 : Int) (mem : hMem) : hv_Met 2 0 0 0 yX10_feed cX10_feed 6 (some FieldType.int) (fun ad _ _ => [.ref (ad 0), .int (hv_I x1), .int (hv_I x2), .int (hv_I x3), .int (hv_I x4), .int (hv_I x5)]) mem (f_X10_feed x1 x2 x3 x4 x5 mem) := by
  refine hv_start (by decide +kernel) (fun _ _ _ => Nat.le_of_ble_eq_true rfl) ?_
  intro X hc
  have hc : hv_C X cX10_feed 6 RX10 (some FieldType.int) 2 0 0 := hc
  show hv_R X 6 0 0 (hv_QX X 0 0 0) (f_X10_feed x1 x2 x3 x4 x5 mem) mem [] [(0, .ref (hv_ad X 0)), (1, .int (hv_I x1)), (2, .int (hv_I x2)), (3, .int (hv_I x3)), (4, .int (hv_I x4)), (5, .int (hv_I x5))] [] 0
  unfold f_X10_feed
  refine hv_aload_n hc dX10_feed_0 rfl (hv_m 0 rfl) ?_
  refine hv_getR hc fl_X10_10 sh_o_0 rfl dX10_feed_1 ?_
  refine hv_callVi hc (c_X7_length mem) yv_X7_length tw_343 sh_o_1 rfl rfl rfl rfl (Nat.le_of_ble_eq_true rfl) (Nat.le_of_ble_eq_true rfl) (Nat.zero_le _) (Nat.zero_le _) dX10_feed_4 (fun r1 m2 => ?_)
  refine hv_bipush hc dX10_feed_7 (by decide) ?_
  refine hv_iadd hc dX10_feed_9 ?_
  refine hv_sipush hc dX10_feed_10 (by decide) ?_
  refine hv_icmp_le (tgt := 18) hc dX10_feed_13 (by decide) ?_ ?_
  · refine hv_aload_n hc dX10_feed_18 rfl (hv_m 0 rfl) ?_
    refine hv_getR hc fl_X10_10 sh_o_0 rfl dX10_feed_19 ?_
    refine hv_iload_n hc dX10_feed_22 rfl (hv_m 1 rfl) ?_
    refine hv_callVv hc (c_X7_add x1 m2) yv_X7_add tw_347 sh_o_1 rfl rfl rfl rfl (Nat.le_of_ble_eq_true rfl) (Nat.le_of_ble_eq_true rfl) (Nat.zero_le _) (Nat.zero_le _) dX10_feed_23 (fun r3 m4 => ?_)
    refine hv_aload_n hc dX10_feed_26 rfl (hv_m 0 rfl) ?_
    refine hv_getR hc fl_X10_10 sh_o_0 rfl dX10_feed_27 ?_
    refine hv_iload_n hc dX10_feed_30 rfl (hv_m 2 rfl) ?_
    refine hv_callVv hc (c_X7_add x2 m4) yv_X7_add tw_347 sh_o_1 rfl rfl rfl rfl (Nat.le_of_ble_eq_true rfl) (Nat.le_of_ble_eq_true rfl) (Nat.zero_le _) (Nat.zero_le _) dX10_feed_31 (fun r5 m6 => ?_)
    refine hv_aload_n hc dX10_feed_34 rfl (hv_m 0 rfl) ?_
    refine hv_getR hc fl_X10_10 sh_o_0 rfl dX10_feed_35 ?_
    refine hv_iload_n hc dX10_feed_38 rfl (hv_m 3 rfl) ?_
    refine hv_callVv hc (c_X7_add x3 m6) yv_X7_add tw_347 sh_o_1 rfl rfl rfl rfl (Nat.le_of_ble_eq_true rfl) (Nat.le_of_ble_eq_true rfl) (Nat.zero_le _) (Nat.zero_le _) dX10_feed_39 (fun r7 m8 => ?_)
    refine hv_aload_n hc dX10_feed_42 rfl (hv_m 0 rfl) ?_
    refine hv_getR hc fl_X10_10 sh_o_0 rfl dX10_feed_43 ?_
    refine hv_iload hc dX10_feed_46 (hv_m 4 rfl) ?_
    refine hv_callVv hc (c_X7_add x4 m8) yv_X7_add tw_347 sh_o_1 rfl rfl rfl rfl (Nat.le_of_ble_eq_true rfl) (Nat.le_of_ble_eq_true rfl) (Nat.zero_le _) (Nat.zero_le _) dX10_feed_48 (fun r9 m10 => ?_)
    refine hv_aload_n hc dX10_feed_51 rfl (hv_m 0 rfl) ?_
    refine hv_getR hc fl_X10_10 sh_o_0 rfl dX10_feed_52 ?_
    refine hv_iload hc dX10_feed_55 (hv_m 5 rfl) ?_
    refine hv_callVv hc (c_X7_add x5 m10) yv_X7_add tw_347 sh_o_1 rfl rfl rfl rfl (Nat.le_of_ble_eq_true rfl) (Nat.le_of_ble_eq_true rfl) (Nat.zero_le _) (Nat.zero_le _) dX10_feed_57 (fun r11 m12 => ?_)
    refine hv_aload_n hc dX10_feed_60 rfl (hv_m 0 rfl) ?_
    refine hv_getR hc fl_X10_10 sh_o_0 rfl dX10_feed_61 ?_
    refine hv_callVi hc (c_X7_length m12) yv_X7_length tw_343 sh_o_1 rfl rfl rfl rfl (Nat.le_of_ble_eq_true rfl) (Nat.le_of_ble_eq_true rfl) (Nat.zero_le _) (Nat.zero_le _) dX10_feed_64 (fun r13 m14 => ?_)
    exact hv_iret hc dX10_feed_67
  · refine hv_iconst hc dX10_feed_16 ?_
    exact hv_iret hc dX10_feed_17
def f_X10_end (x1 : Int) (mem : hMem) : hRs := hv_lt x1 0 (hv_ret ((-1)) mem) (hv_b (f_X7_length mem) (fun r1 m2 => hv_lt r1 x1 (hv_ret ((-1)) m2) (hv_b (f_X7_cut x1 m2) (fun r3 m4 => hv_ret x1 m4))))
set_option maxRecDepth 100000 in
set_option maxHeartbeats 4000000 in
theorem c_X10_end (x1 : Int) (mem : hMem) : hv_Met 1 0 0 0 yX10_end cX10_end 2 (some FieldType.int) (fun ad _ _ => [.ref (ad 0), .int (hv_I x1)]) mem (f_X10_end x1 mem) := by
  refine hv_start (by decide +kernel) (fun _ _ _ => Nat.le_of_ble_eq_true rfl) ?_
  intro X hc
  have hc : hv_C X cX10_end 2 RX10 (some FieldType.int) 1 0 0 := hc
  show hv_R X 2 0 0 (hv_QX X 0 0 0) (f_X10_end x1 mem) mem [] [(0, .ref (hv_ad X 0)), (1, .int (hv_I x1))] [] 0
  unfold f_X10_end
  refine hv_iload_n hc dX10_end_0 rfl (hv_m 1 rfl) ?_
  refine hv_if_lt (tgt := 15) hc dX10_end_1 (by decide) ?_ ?_
  · refine hv_iconst hc dX10_end_15 ?_
    exact hv_iret hc dX10_end_16
  · refine hv_iload_n hc dX10_end_4 rfl (hv_m 1 rfl) ?_
    refine hv_aload_n hc dX10_end_5 rfl (hv_m 0 rfl) ?_
    refine hv_getR hc fl_X10_10 sh_o_0 rfl dX10_end_6 ?_
    refine hv_callVi hc (c_X7_length mem) yv_X7_length tw_343 sh_o_1 rfl rfl rfl rfl (Nat.le_of_ble_eq_true rfl) (Nat.le_of_ble_eq_true rfl) (Nat.zero_le _) (Nat.zero_le _) dX10_end_9 (fun r1 m2 => ?_)
    refine hv_icmp_le (tgt := 17) hc dX10_end_12 (by decide) ?_ ?_
    · refine hv_aload_n hc dX10_end_17 rfl (hv_m 0 rfl) ?_
      refine hv_getR hc fl_X10_10 sh_o_0 rfl dX10_end_18 ?_
      refine hv_iload_n hc dX10_end_21 rfl (hv_m 1 rfl) ?_
      refine hv_callVv hc (c_X7_cut x1 m2) yv_X7_cut tw_358 sh_o_1 rfl rfl rfl rfl (Nat.le_of_ble_eq_true rfl) (Nat.le_of_ble_eq_true rfl) (Nat.zero_le _) (Nat.zero_le _) dX10_end_22 (fun r3 m4 => ?_)
      refine hv_iload_n hc dX10_end_25 rfl (hv_m 1 rfl) ?_
      exact hv_iret hc dX10_end_26
    · refine hv_iconst hc dX10_end_15 ?_
      exact hv_iret hc dX10_end_16
def f_X10_cutTo (x1 : Int) (mem : hMem) : hRs := hv_b (f_X3_known mem) (fun r1 m2 => hv_b (f_X6_putsFrom x1 m2) (fun r3 m4 => hv_b (f_X3_cut (r1 - r3) m4) (fun r5 m6 => hv_b (f_X2_cut 26 x1 m6) (fun r7 m8 => hv_b (f_X2_cut 42 x1 m8) (fun r9 m10 => hv_b (f_X6_cut x1 m10) (fun r11 m12 => hv_ret 0 m12))))))
set_option maxRecDepth 100000 in
set_option maxHeartbeats 4000000 in
theorem c_X10_cutTo (x1 : Int) (mem : hMem) : hv_Met 3 0 0 1 yX10_cutTo cX10_cutTo 2 (none) (fun ad _ _ => [.ref (ad 0), .int (hv_I x1)]) mem (f_X10_cutTo x1 mem) := by
  refine hv_start (by decide +kernel) (fun _ _ _ => Nat.le_of_ble_eq_true rfl) ?_
  intro X hc
  have hc : hv_C X cX10_cutTo 2 RX10 (none) 3 0 0 := hc
  show hv_R X 2 0 0 (hv_QX X 1 0 0) (f_X10_cutTo x1 mem) mem [] [(0, .ref (hv_ad X 0)), (1, .int (hv_I x1))] [] 0
  unfold f_X10_cutTo
  refine hv_aload_n hc dX10_cutTo_0 rfl (hv_m 0 rfl) ?_
  refine hv_getR hc fl_X10_28 sh_o_0 rfl dX10_cutTo_1 ?_
  refine hv_aload_n hc dX10_cutTo_4 rfl (hv_m 0 rfl) ?_
  refine hv_getR hc fl_X10_28 sh_o_0 rfl dX10_cutTo_5 ?_
  refine hv_callVi hc (c_X3_known mem) yv_X3_known tw_532 sh_o_11 rfl rfl rfl rfl (Nat.le_of_ble_eq_true rfl) (Nat.le_of_ble_eq_true rfl) (Nat.zero_le _) (Nat.zero_le _) dX10_cutTo_8 (fun r1 m2 => ?_)
  refine hv_aload_n hc dX10_cutTo_11 rfl (hv_m 0 rfl) ?_
  refine hv_getR hc fl_X10_35 sh_o_0 rfl dX10_cutTo_12 ?_
  refine hv_iload_n hc dX10_cutTo_15 rfl (hv_m 1 rfl) ?_
  refine hv_callVi hc (c_X6_putsFrom x1 m2) yv_X6_putsFrom tw_536 sh_o_14 rfl rfl rfl rfl (Nat.le_of_ble_eq_true rfl) (Nat.le_of_ble_eq_true rfl) (Nat.zero_le _) (Nat.zero_le _) dX10_cutTo_16 (fun r3 m4 => ?_)
  refine hv_isub hc dX10_cutTo_19 ?_
  refine hv_callVv hc (c_X3_cut (r1 - r3) m4) yv_X3_cut tw_545 sh_o_11 rfl rfl rfl rfl (Nat.le_of_ble_eq_true rfl) (Nat.le_of_ble_eq_true rfl) (Nat.zero_le _) (Nat.zero_le _) dX10_cutTo_20 (fun r5 m6 => ?_)
  refine hv_aload_n hc dX10_cutTo_23 rfl (hv_m 0 rfl) ?_
  refine hv_getR hc fl_X10_54 sh_o_0 rfl dX10_cutTo_24 ?_
  refine hv_iload_n hc dX10_cutTo_27 rfl (hv_m 1 rfl) ?_
  refine hv_callVv hc (c_X2_cut 26 (by decide) x1 m6) yv_X2_cut tw_549 sh_o_26 rfl rfl rfl rfl (Nat.le_of_ble_eq_true rfl) (Nat.le_of_ble_eq_true rfl) (Nat.zero_le _) (Nat.zero_le _) dX10_cutTo_28 (fun r7 m8 => ?_)
  refine hv_aload_n hc dX10_cutTo_31 rfl (hv_m 0 rfl) ?_
  refine hv_getR hc fl_X10_58 sh_o_0 rfl dX10_cutTo_32 ?_
  refine hv_iload_n hc dX10_cutTo_35 rfl (hv_m 1 rfl) ?_
  refine hv_callVv hc (c_X2_cut 42 (by decide) x1 m8) yv_X2_cut tw_549 sh_o_42 rfl rfl rfl rfl (Nat.le_of_ble_eq_true rfl) (Nat.le_of_ble_eq_true rfl) (Nat.zero_le _) (Nat.zero_le _) dX10_cutTo_36 (fun r9 m10 => ?_)
  refine hv_aload_n hc dX10_cutTo_39 rfl (hv_m 0 rfl) ?_
  refine hv_getR hc fl_X10_35 sh_o_0 rfl dX10_cutTo_40 ?_
  refine hv_iload_n hc dX10_cutTo_43 rfl (hv_m 1 rfl) ?_
  refine hv_callVv hc (c_X6_cut x1 m10) yv_X6_cut tw_558 sh_o_14 rfl rfl rfl rfl (Nat.le_of_ble_eq_true rfl) (Nat.le_of_ble_eq_true rfl) (Nat.zero_le _) (Nat.zero_le _) dX10_cutTo_44 (fun r11 m12 => ?_)
  exact hv_vret hc dX10_cutTo_47
def J_X10_grow_49 (x1 x2 x3 x6 x7 : Int) (mem : hMem) : hRs := hv_b (f_X3_turnOf x7 mem) (fun r1 m2 => hv_b (f_X0_make 20 x6 x1 x2 x3 r1 m2) (fun r3 m4 => hv_b (f_X2_grow 26 x1 x2 x3 r1 m4) (fun r5 m6 => hv_b (f_X2_grow 42 x1 x2 x3 r1 m6) (fun r7 m8 => hv_b (f_X6_add x1 x2 x3 x7 m8) (fun r9 m10 => hv_ret x6 m10)))))
set_option maxRecDepth 100000 in
theorem g_X10_grow_49 {X : hv_X} (hc : hv_C X cX10_grow 9 RX10 (some FieldType.int) 6 0 0) (x1 x2 x3 x6 x7 : Int) (mem : hMem) : hv_R X 9 0 0 (hv_QX X 0 0 0) (J_X10_grow_49 x1 x2 x3 x6 x7 mem) mem [] [(0, .ref (hv_ad X 0)), (1, .int (hv_I x1)), (2, .int (hv_I x2)), (3, .int (hv_I x3)), (6, .int (hv_I x6)), (7, .int (hv_I x7))] [] 49 := by
  unfold J_X10_grow_49
  refine hv_aload_n hc dX10_grow_49 rfl (hv_m 0 rfl) ?_
  refine hv_getR hc fl_X10_28 sh_o_0 rfl dX10_grow_50 ?_
  refine hv_iload hc dX10_grow_53 (hv_m 5 rfl) ?_
  refine hv_callVi hc (c_X3_turnOf x7 mem) yv_X3_turnOf tw_627 sh_o_11 rfl rfl rfl rfl (Nat.le_of_ble_eq_true rfl) (Nat.le_of_ble_eq_true rfl) (Nat.zero_le _) (Nat.zero_le _) dX10_grow_55 (fun r1 m2 => ?_)
  refine hv_istore (lv' := [(8, .int (hv_I r1)), (0, .ref (hv_ad X 0)), (1, .int (hv_I x1)), (2, .int (hv_I x2)), (3, .int (hv_I x3)), (6, .int (hv_I x6)), (7, .int (hv_I x7))]) hc dX10_grow_58 (by decide) rfl ?_
  refine hv_aload_n hc dX10_grow_60 rfl (hv_m 1 rfl) ?_
  refine hv_getR hc fl_X10_42 sh_o_0 rfl dX10_grow_61 ?_
  refine hv_iload hc dX10_grow_64 (hv_m 5 rfl) ?_
  refine hv_iload_n hc dX10_grow_66 rfl (hv_m 2 rfl) ?_
  refine hv_iload_n hc dX10_grow_67 rfl (hv_m 3 rfl) ?_
  refine hv_iload_n hc dX10_grow_68 rfl (hv_m 4 rfl) ?_
  refine hv_iload hc dX10_grow_69 (hv_m 0 rfl) ?_
  refine hv_callVv hc (c_X0_make 20 (by decide) x6 x1 x2 x3 r1 m2) yv_X0_make tw_636 sh_o_20 rfl rfl rfl rfl (Nat.le_of_ble_eq_true rfl) (Nat.le_of_ble_eq_true rfl) (Nat.zero_le _) (Nat.zero_le _) dX10_grow_71 (fun r3 m4 => ?_)
  refine hv_aload_n hc dX10_grow_74 rfl (hv_m 1 rfl) ?_
  refine hv_getR hc fl_X10_54 sh_o_0 rfl dX10_grow_75 ?_
  refine hv_iload_n hc dX10_grow_78 rfl (hv_m 2 rfl) ?_
  refine hv_iload_n hc dX10_grow_79 rfl (hv_m 3 rfl) ?_
  refine hv_iload_n hc dX10_grow_80 rfl (hv_m 4 rfl) ?_
  refine hv_iload hc dX10_grow_81 (hv_m 0 rfl) ?_
  refine hv_callVv hc (c_X2_grow 26 (by decide) x1 x2 x3 r1 m4) yv_X2_grow tw_657 sh_o_26 rfl rfl rfl rfl (Nat.le_of_ble_eq_true rfl) (Nat.le_of_ble_eq_true rfl) (Nat.zero_le _) (Nat.zero_le _) dX10_grow_83 (fun r5 m6 => ?_)
  refine hv_aload_n hc dX10_grow_86 rfl (hv_m 1 rfl) ?_
  refine hv_getR hc fl_X10_58 sh_o_0 rfl dX10_grow_87 ?_
  refine hv_iload_n hc dX10_grow_90 rfl (hv_m 2 rfl) ?_
  refine hv_iload_n hc dX10_grow_91 rfl (hv_m 3 rfl) ?_
  refine hv_iload_n hc dX10_grow_92 rfl (hv_m 4 rfl) ?_
  refine hv_iload hc dX10_grow_93 (hv_m 0 rfl) ?_
  refine hv_callVv hc (c_X2_grow 42 (by decide) x1 x2 x3 r1 m6) yv_X2_grow tw_657 sh_o_42 rfl rfl rfl rfl (Nat.le_of_ble_eq_true rfl) (Nat.le_of_ble_eq_true rfl) (Nat.zero_le _) (Nat.zero_le _) dX10_grow_95 (fun r7 m8 => ?_)
  refine hv_aload_n hc dX10_grow_98 rfl (hv_m 1 rfl) ?_
  refine hv_getR hc fl_X10_35 sh_o_0 rfl dX10_grow_99 ?_
  refine hv_iload_n hc dX10_grow_102 rfl (hv_m 2 rfl) ?_
  refine hv_iload_n hc dX10_grow_103 rfl (hv_m 3 rfl) ?_
  refine hv_iload_n hc dX10_grow_104 rfl (hv_m 4 rfl) ?_
  refine hv_iload hc dX10_grow_105 (hv_m 6 rfl) ?_
  refine hv_callVv hc (c_X6_add x1 x2 x3 x7 m8) yv_X6_add tw_773 sh_o_14 rfl rfl rfl rfl (Nat.le_of_ble_eq_true rfl) (Nat.le_of_ble_eq_true rfl) (Nat.zero_le _) (Nat.zero_le _) dX10_grow_107 (fun r9 m10 => ?_)
  refine hv_iload hc dX10_grow_110 (hv_m 5 rfl) ?_
  exact hv_iret hc dX10_grow_112
def f_X10_grow (x1 x2 x3 x4 x5 : Int) (mem : hMem) : hRs := hv_b (f_X6_versions mem) (fun r1 m2 => hv_eq x1 1 (hv_b (f_X3_add x4 x5 m2) (fun r5 m6 => J_X10_grow_49 x1 x2 x3 r1 r5 m6)) (hv_eq x1 3 (hv_b (f_X0_jobAt 20 x2 0 m2) (fun r3 m4 => J_X10_grow_49 x1 x2 x3 r1 r3 m4)) (J_X10_grow_49 x1 x2 x3 r1 ((-1)) m2)))
set_option maxRecDepth 100000 in
set_option maxHeartbeats 4000000 in
theorem c_X10_grow (x1 x2 x3 x4 x5 : Int) (mem : hMem) : hv_Met 6 0 0 0 yX10_grow cX10_grow 9 (some FieldType.int) (fun ad _ _ => [.ref (ad 0), .int (hv_I x1), .int (hv_I x2), .int (hv_I x3), .int (hv_I x4), .int (hv_I x5)]) mem (f_X10_grow x1 x2 x3 x4 x5 mem) := by
  refine hv_start (by decide +kernel) (fun _ _ _ => Nat.le_of_ble_eq_true rfl) ?_
  intro X hc
  have hc : hv_C X cX10_grow 9 RX10 (some FieldType.int) 6 0 0 := hc
  show hv_R X 9 0 0 (hv_QX X 0 0 0) (f_X10_grow x1 x2 x3 x4 x5 mem) mem [] [(0, .ref (hv_ad X 0)), (1, .int (hv_I x1)), (2, .int (hv_I x2)), (3, .int (hv_I x3)), (4, .int (hv_I x4)), (5, .int (hv_I x5))] [] 0
  unfold f_X10_grow
  refine hv_aload_n hc dX10_grow_0 rfl (hv_m 0 rfl) ?_
  refine hv_getR hc fl_X10_35 sh_o_0 rfl dX10_grow_1 ?_
  refine hv_callVi hc (c_X6_versions mem) yv_X6_versions tw_602 sh_o_14 rfl rfl rfl rfl (Nat.le_of_ble_eq_true rfl) (Nat.le_of_ble_eq_true rfl) (Nat.zero_le _) (Nat.zero_le _) dX10_grow_4 (fun r1 m2 => ?_)
  refine hv_istore (lv' := [(6, .int (hv_I r1)), (0, .ref (hv_ad X 0)), (1, .int (hv_I x1)), (2, .int (hv_I x2)), (3, .int (hv_I x3)), (4, .int (hv_I x4)), (5, .int (hv_I x5))]) hc dX10_grow_7 (by decide) rfl ?_
  refine hv_iconst hc dX10_grow_9 ?_
  refine hv_istore (lv' := [(7, .int (hv_I ((-1)))), (6, .int (hv_I r1)), (0, .ref (hv_ad X 0)), (1, .int (hv_I x1)), (2, .int (hv_I x2)), (3, .int (hv_I x3)), (4, .int (hv_I x4)), (5, .int (hv_I x5))]) hc dX10_grow_10 (by decide) rfl ?_
  refine hv_iload_n hc dX10_grow_12 rfl (hv_m 3 rfl) ?_
  refine hv_iconst hc dX10_grow_13 ?_
  refine hv_icmp_ne (tgt := 33) hc dX10_grow_14 (by decide) ?_ ?_
  · refine hv_iload_n hc dX10_grow_33 rfl (hv_m 3 rfl) ?_
    refine hv_iconst hc dX10_grow_34 ?_
    refine hv_icmp_ne (tgt := 49) hc dX10_grow_35 (by decide) ?_ ?_
    · exact hv_pick [2, 3, 4, 5, 1, 0] rfl (g_X10_grow_49 hc x1 x2 x3 r1 ((-1)) m2)
    · refine hv_aload_n hc dX10_grow_38 rfl (hv_m 2 rfl) ?_
      refine hv_getR hc fl_X10_42 sh_o_0 rfl dX10_grow_39 ?_
      refine hv_iload_n hc dX10_grow_42 rfl (hv_m 4 rfl) ?_
      refine hv_iconst hc dX10_grow_43 ?_
      refine hv_callVi hc (c_X0_jobAt 20 (by decide) x2 0 m2) yv_X0_jobAt tw_611 sh_o_20 rfl rfl rfl rfl (Nat.le_of_ble_eq_true rfl) (Nat.le_of_ble_eq_true rfl) (Nat.zero_le _) (Nat.zero_le _) dX10_grow_44 (fun r3 m4 => ?_)
      refine hv_istore (lv' := [(7, .int (hv_I r3)), (6, .int (hv_I r1)), (0, .ref (hv_ad X 0)), (1, .int (hv_I x1)), (2, .int (hv_I x2)), (3, .int (hv_I x3)), (4, .int (hv_I x4)), (5, .int (hv_I x5))]) hc dX10_grow_47 (by decide) rfl ?_
      exact hv_pick [2, 3, 4, 5, 1, 0] rfl (g_X10_grow_49 hc x1 x2 x3 r1 r3 m4)
  · refine hv_aload_n hc dX10_grow_17 rfl (hv_m 2 rfl) ?_
    refine hv_getR hc fl_X10_28 sh_o_0 rfl dX10_grow_18 ?_
    refine hv_iload hc dX10_grow_21 (hv_m 6 rfl) ?_
    refine hv_iload hc dX10_grow_23 (hv_m 7 rfl) ?_
    refine hv_callVi hc (c_X3_add x4 x5 m2) yv_X3_add tw_606 sh_o_11 rfl rfl rfl rfl (Nat.le_of_ble_eq_true rfl) (Nat.le_of_ble_eq_true rfl) (Nat.zero_le _) (Nat.zero_le _) dX10_grow_25 (fun r5 m6 => ?_)
    refine hv_istore (lv' := [(7, .int (hv_I r5)), (6, .int (hv_I r1)), (0, .ref (hv_ad X 0)), (1, .int (hv_I x1)), (2, .int (hv_I x2)), (3, .int (hv_I x3)), (4, .int (hv_I x4)), (5, .int (hv_I x5))]) hc dX10_grow_28 (by decide) rfl ?_
    refine hv_goto (tgt := 49) hc dX10_grow_30 (by decide) ?_
    exact hv_pick [2, 3, 4, 5, 1, 0] rfl (g_X10_grow_49 hc x1 x2 x3 r1 r5 m6)
def B_X10_plan_74 (R74 : Int → hMem → hRs) (x2 : Int) (mem : hMem) : hRs := hv_lt x2 (mem 0 13) (hv_b (f_X4_howOf x2 mem) (fun r1 m2 => hv_b (f_X4_firstOf x2 m2) (fun r3 m4 => hv_b (f_X4_secondOf x2 m4) (fun r5 m6 => hv_b (f_X4_keyOf x2 m6) (fun r7 m8 => hv_b (f_X4_timeOf x2 m8) (fun r9 m10 => hv_b (f_X10_grow r1 r3 r5 r7 r9 m10) (fun r11 m12 => hv_set (x2 + 1) (fun y13 => R74 y13 m12)))))))) (hv_ret (mem 0 12) mem)
def L_X10_plan_74 : Nat → Int → hMem → hRs
  | 0 => fun _ _ => none
  | n + 1 => B_X10_plan_74 (L_X10_plan_74 n)
set_option maxRecDepth 100000 in
theorem gB_X10_plan_74 {X : hv_X} (hc : hv_C X cX10_plan 3 RX10 (some FieldType.int) 9 0 0) (R74 : Int → hMem → hRs) (hR74 : ∀ (x2 : Int) (mem : hMem), hv_R X 3 0 0 (hv_QX X 0 0 0) (R74 x2 mem) mem [] [(0, .ref (hv_ad X 0)), (2, .int (hv_I x2))] [] 74) (x2 : Int) (mem : hMem) : hv_R X 3 0 0 (hv_QX X 0 0 0) (B_X10_plan_74 R74 x2 mem) mem [] [(0, .ref (hv_ad X 0)), (2, .int (hv_I x2))] [] 74 := by
  unfold B_X10_plan_74
  refine hv_iload_n hc dX10_plan_74 rfl (hv_m 1 rfl) ?_
  refine hv_aload_n hc dX10_plan_75 rfl (hv_m 0 rfl) ?_
  refine hv_getI hc fl_X10_116 sh_o_0 rfl dX10_plan_76 ?_
  refine hv_icmp_ge (tgt := 133) hc dX10_plan_79 (by decide) ?_ ?_
  · refine hv_aload_n hc dX10_plan_133 rfl (hv_m 0 rfl) ?_
    refine hv_getI hc fl_X10_110 sh_o_0 rfl dX10_plan_134 ?_
    exact hv_iret hc dX10_plan_137
  · refine hv_aload_n hc dX10_plan_82 rfl (hv_m 0 rfl) ?_
    refine hv_aload_n hc dX10_plan_83 rfl (hv_m 0 rfl) ?_
    refine hv_getR hc fl_X10_21 sh_o_0 rfl dX10_plan_84 ?_
    refine hv_iload_n hc dX10_plan_87 rfl (hv_m 1 rfl) ?_
    refine hv_callVi hc (c_X4_howOf x2 mem) yv_X4_howOf tw_578 sh_o_3 rfl rfl rfl rfl (Nat.le_of_ble_eq_true rfl) (Nat.le_of_ble_eq_true rfl) (Nat.zero_le _) (Nat.zero_le _) dX10_plan_88 (fun r1 m2 => ?_)
    refine hv_aload_n hc dX10_plan_91 rfl (hv_m 0 rfl) ?_
    refine hv_getR hc fl_X10_21 sh_o_0 rfl dX10_plan_92 ?_
    refine hv_iload_n hc dX10_plan_95 rfl (hv_m 1 rfl) ?_
    refine hv_callVi hc (c_X4_firstOf x2 m2) yv_X4_firstOf tw_582 sh_o_3 rfl rfl rfl rfl (Nat.le_of_ble_eq_true rfl) (Nat.le_of_ble_eq_true rfl) (Nat.zero_le _) (Nat.zero_le _) dX10_plan_96 (fun r3 m4 => ?_)
    refine hv_aload_n hc dX10_plan_99 rfl (hv_m 0 rfl) ?_
    refine hv_getR hc fl_X10_21 sh_o_0 rfl dX10_plan_100 ?_
    refine hv_iload_n hc dX10_plan_103 rfl (hv_m 1 rfl) ?_
    refine hv_callVi hc (c_X4_secondOf x2 m4) yv_X4_secondOf tw_586 sh_o_3 rfl rfl rfl rfl (Nat.le_of_ble_eq_true rfl) (Nat.le_of_ble_eq_true rfl) (Nat.zero_le _) (Nat.zero_le _) dX10_plan_104 (fun r5 m6 => ?_)
    refine hv_aload_n hc dX10_plan_107 rfl (hv_m 0 rfl) ?_
    refine hv_getR hc fl_X10_21 sh_o_0 rfl dX10_plan_108 ?_
    refine hv_iload_n hc dX10_plan_111 rfl (hv_m 1 rfl) ?_
    refine hv_callVi hc (c_X4_keyOf x2 m6) yv_X4_keyOf tw_590 sh_o_3 rfl rfl rfl rfl (Nat.le_of_ble_eq_true rfl) (Nat.le_of_ble_eq_true rfl) (Nat.zero_le _) (Nat.zero_le _) dX10_plan_112 (fun r7 m8 => ?_)
    refine hv_aload_n hc dX10_plan_115 rfl (hv_m 0 rfl) ?_
    refine hv_getR hc fl_X10_21 sh_o_0 rfl dX10_plan_116 ?_
    refine hv_iload_n hc dX10_plan_119 rfl (hv_m 1 rfl) ?_
    refine hv_callVi hc (c_X4_timeOf x2 m8) yv_X4_timeOf tw_594 sh_o_3 rfl rfl rfl rfl (Nat.le_of_ble_eq_true rfl) (Nat.le_of_ble_eq_true rfl) (Nat.zero_le _) (Nat.zero_le _) dX10_plan_120 (fun r9 m10 => ?_)
    refine hv_callVi hc (c_X10_grow r1 r3 r5 r7 r9 m10) yv_X10_grow tw_598 sh_o_0 rfl rfl rfl rfl (Nat.le_of_ble_eq_true rfl) (Nat.le_of_ble_eq_true rfl) (Nat.zero_le _) (Nat.zero_le _) dX10_plan_123 (fun r11 m12 => ?_)
    refine hv_pop hc dX10_plan_126 rfl ?_
    refine hv_iinc_s (lvf := fun y13 => [(2, .int (hv_I y13)), (0, .ref (hv_ad X 0))]) hc dX10_plan_127 (by decide) (hv_m 1 rfl) (fun _ => rfl) (fun y13 => ?_)
    refine hv_goto (tgt := 74) hc dX10_plan_130 (by decide) ?_
    exact hv_pick [1, 0] rfl (hR74 y13 m12)
theorem g_X10_plan_74 {X : hv_X} (hc : hv_C X cX10_plan 3 RX10 (some FieldType.int) 9 0 0) : ∀ (n : Nat) (x2 : Int) (mem : hMem), hv_R X 3 0 0 (hv_QX X 0 0 0) (L_X10_plan_74 n x2 mem) mem [] [(0, .ref (hv_ad X 0)), (2, .int (hv_I x2))] [] 74 := by
  intro n
  induction n with
  | zero => intros; exact hv_none
  | succ n ih => exact gB_X10_plan_74 hc _ ih
def f_X10_plan (mem : hMem) : hRs := hv_b (f_X4_read mem) (fun r1 m2 => hv_b (f_X7_cut 0 m2) (fun r3 m4 => hv_eq r1 0 (hv_ret ((-4)) m4) (hv_b (f_X10_cutTo 0 m4) (fun r5 m6 => hv_b (f_X4_lawTold m6) (fun r7 m8 => hv_put m8 0 10 r7 (fun m9 => hv_b (f_X4_handsTold m9) (fun r10 m11 => hv_put m11 0 11 r10 (fun m12 => hv_b (f_X4_linesTold m12) (fun r13 m14 => hv_put m14 0 12 r13 (fun m15 => hv_b (f_X4_versionsTold m15) (fun r16 m17 => hv_put m17 0 13 r16 (fun m18 => L_X10_plan_74 hv_FU 0 m18))))))))))))
set_option maxRecDepth 100000 in
set_option maxHeartbeats 4000000 in
theorem c_X10_plan (mem : hMem) : hv_Met 9 0 0 0 yX10_plan cX10_plan 3 (some FieldType.int) (fun ad _ _ => [.ref (ad 0)]) mem (f_X10_plan mem) := by
  refine hv_start (by decide +kernel) (fun _ _ _ => Nat.le_of_ble_eq_true rfl) ?_
  intro X hc
  have hc : hv_C X cX10_plan 3 RX10 (some FieldType.int) 9 0 0 := hc
  show hv_R X 3 0 0 (hv_QX X 0 0 0) (f_X10_plan mem) mem [] [(0, .ref (hv_ad X 0))] [] 0
  unfold f_X10_plan
  refine hv_aload_n hc dX10_plan_0 rfl (hv_m 0 rfl) ?_
  refine hv_getR hc fl_X10_21 sh_o_0 rfl dX10_plan_1 ?_
  refine hv_callVi hc (c_X4_read mem) yv_X4_read tw_366 sh_o_3 rfl rfl rfl rfl (Nat.le_of_ble_eq_true rfl) (Nat.le_of_ble_eq_true rfl) (Nat.zero_le _) (Nat.zero_le _) dX10_plan_4 (fun r1 m2 => ?_)
  refine hv_istore_n (lv' := [(1, .int (hv_I r1)), (0, .ref (hv_ad X 0))]) hc dX10_plan_7 rfl (by decide) rfl ?_
  refine hv_aload_n hc dX10_plan_8 rfl (hv_m 1 rfl) ?_
  refine hv_getR hc fl_X10_10 sh_o_0 rfl dX10_plan_9 ?_
  refine hv_iconst hc dX10_plan_12 ?_
  refine hv_callVv hc (c_X7_cut 0 m2) yv_X7_cut tw_358 sh_o_1 rfl rfl rfl rfl (Nat.le_of_ble_eq_true rfl) (Nat.le_of_ble_eq_true rfl) (Nat.zero_le _) (Nat.zero_le _) dX10_plan_13 (fun r3 m4 => ?_)
  refine hv_iload_n hc dX10_plan_16 rfl (hv_m 0 rfl) ?_
  refine hv_if_ne (tgt := 23) hc dX10_plan_17 (by decide) ?_ ?_
  · refine hv_aload_n hc dX10_plan_23 rfl (hv_m 1 rfl) ?_
    refine hv_iconst hc dX10_plan_24 ?_
    refine hv_callVv hc (c_X10_cutTo 0 m4) yv_X10_cutTo tw_528 sh_o_0 rfl rfl rfl rfl (Nat.le_of_ble_eq_true rfl) (Nat.le_of_ble_eq_true rfl) (Nat.zero_le _) (Nat.zero_le _) dX10_plan_25 (fun r5 m6 => ?_)
    refine hv_aload_n hc dX10_plan_28 rfl (hv_m 1 rfl) ?_
    refine hv_aload_n hc dX10_plan_29 rfl (hv_m 1 rfl) ?_
    refine hv_getR hc fl_X10_21 sh_o_0 rfl dX10_plan_30 ?_
    refine hv_callVi hc (c_X4_lawTold m6) yv_X4_lawTold tw_562 sh_o_3 rfl rfl rfl rfl (Nat.le_of_ble_eq_true rfl) (Nat.le_of_ble_eq_true rfl) (Nat.zero_le _) (Nat.zero_le _) dX10_plan_33 (fun r7 m8 => ?_)
    refine hv_putI hc fp_X10_97 sh_o_0 rfl dX10_plan_36 (fun m9 => ?_)
    refine hv_aload_n hc dX10_plan_39 rfl (hv_m 1 rfl) ?_
    refine hv_aload_n hc dX10_plan_40 rfl (hv_m 1 rfl) ?_
    refine hv_getR hc fl_X10_21 sh_o_0 rfl dX10_plan_41 ?_
    refine hv_callVi hc (c_X4_handsTold m9) yv_X4_handsTold tw_566 sh_o_3 rfl rfl rfl rfl (Nat.le_of_ble_eq_true rfl) (Nat.le_of_ble_eq_true rfl) (Nat.zero_le _) (Nat.zero_le _) dX10_plan_44 (fun r10 m11 => ?_)
    refine hv_putI hc fp_X10_104 sh_o_0 rfl dX10_plan_47 (fun m12 => ?_)
    refine hv_aload_n hc dX10_plan_50 rfl (hv_m 1 rfl) ?_
    refine hv_aload_n hc dX10_plan_51 rfl (hv_m 1 rfl) ?_
    refine hv_getR hc fl_X10_21 sh_o_0 rfl dX10_plan_52 ?_
    refine hv_callVi hc (c_X4_linesTold m12) yv_X4_linesTold tw_570 sh_o_3 rfl rfl rfl rfl (Nat.le_of_ble_eq_true rfl) (Nat.le_of_ble_eq_true rfl) (Nat.zero_le _) (Nat.zero_le _) dX10_plan_55 (fun r13 m14 => ?_)
    refine hv_putI hc fp_X10_110 sh_o_0 rfl dX10_plan_58 (fun m15 => ?_)
    refine hv_aload_n hc dX10_plan_61 rfl (hv_m 1 rfl) ?_
    refine hv_aload_n hc dX10_plan_62 rfl (hv_m 1 rfl) ?_
    refine hv_getR hc fl_X10_21 sh_o_0 rfl dX10_plan_63 ?_
    refine hv_callVi hc (c_X4_versionsTold m15) yv_X4_versionsTold tw_574 sh_o_3 rfl rfl rfl rfl (Nat.le_of_ble_eq_true rfl) (Nat.le_of_ble_eq_true rfl) (Nat.zero_le _) (Nat.zero_le _) dX10_plan_66 (fun r16 m17 => ?_)
    refine hv_putI hc fp_X10_116 sh_o_0 rfl dX10_plan_69 (fun m18 => ?_)
    refine hv_iconst hc dX10_plan_72 ?_
    refine hv_istore_n (lv' := [(2, .int (hv_I 0)), (1, .int (hv_I r1)), (0, .ref (hv_ad X 0))]) hc dX10_plan_73 rfl (by decide) rfl ?_
    exact hv_pick [2, 0] rfl (g_X10_plan_74 hc hv_FU 0 m18)
  · refine hv_bipush hc dX10_plan_20 (by decide) ?_
    exact hv_iret hc dX10_plan_22
def f_X10_fault (x1 : Int) (mem : hMem) : hRs := hv_eq x1 0 (hv_b (f_X4_faultFound mem) (fun r1 m2 => hv_ret r1 m2)) (hv_eq x1 1 (hv_b (f_X4_faultPlace mem) (fun r3 m4 => hv_ret r3 m4)) (hv_ret ((-1)) mem))
set_option maxRecDepth 100000 in
set_option maxHeartbeats 4000000 in
theorem c_X10_fault (x1 : Int) (mem : hMem) : hv_Met 1 0 0 0 yX10_fault cX10_fault 2 (some FieldType.int) (fun ad _ _ => [.ref (ad 0), .int (hv_I x1)]) mem (f_X10_fault x1 mem) := by
  refine hv_start (by decide +kernel) (fun _ _ _ => Nat.le_of_ble_eq_true rfl) ?_
  intro X hc
  have hc : hv_C X cX10_fault 2 RX10 (some FieldType.int) 1 0 0 := hc
  show hv_R X 2 0 0 (hv_QX X 0 0 0) (f_X10_fault x1 mem) mem [] [(0, .ref (hv_ad X 0)), (1, .int (hv_I x1))] [] 0
  unfold f_X10_fault
  refine hv_iload_n hc dX10_fault_0 rfl (hv_m 1 rfl) ?_
  refine hv_lsw01 (t0 := 28) (t1 := 36) (tD := 44) hc dX10_fault_1 (by decide) (by decide) (by decide) ?_ ?_ ?_
  · refine hv_aload_n hc dX10_fault_28 rfl (hv_m 0 rfl) ?_
    refine hv_getR hc fl_X10_21 sh_o_0 rfl dX10_fault_29 ?_
    refine hv_callVi hc (c_X4_faultFound mem) yv_X4_faultFound tw_787 sh_o_3 rfl rfl rfl rfl (Nat.le_of_ble_eq_true rfl) (Nat.le_of_ble_eq_true rfl) (Nat.zero_le _) (Nat.zero_le _) dX10_fault_32 (fun r1 m2 => ?_)
    exact hv_iret hc dX10_fault_35
  · refine hv_aload_n hc dX10_fault_36 rfl (hv_m 0 rfl) ?_
    refine hv_getR hc fl_X10_21 sh_o_0 rfl dX10_fault_37 ?_
    refine hv_callVi hc (c_X4_faultPlace mem) yv_X4_faultPlace tw_791 sh_o_3 rfl rfl rfl rfl (Nat.le_of_ble_eq_true rfl) (Nat.le_of_ble_eq_true rfl) (Nat.zero_le _) (Nat.zero_le _) dX10_fault_40 (fun r3 m4 => ?_)
    exact hv_iret hc dX10_fault_43
  · refine hv_iconst hc dX10_fault_44 ?_
    exact hv_iret hc dX10_fault_45
def f_X10_count (x1 : Int) (mem : hMem) : hRs := hv_tsw x1 0 [hv_ret (mem 0 10) mem, hv_ret (mem 0 11) mem, hv_b (f_X6_versions mem) (fun r1 m2 => hv_ret r1 m2), hv_b (f_X3_known mem) (fun r3 m4 => hv_ret r3 m4), hv_ret (mem 0 13) mem, hv_b (f_X6_versions mem) (fun r5 m6 => hv_ret (r5 - (m6 0 13)) m6), hv_ret (mem 0 12) mem, hv_b (f_X7_length mem) (fun r7 m8 => hv_ret r7 m8)] (hv_ret ((-1)) mem)
set_option maxRecDepth 100000 in
set_option maxHeartbeats 4000000 in
theorem c_X10_count (x1 : Int) (mem : hMem) : hv_Met 1 0 0 0 yX10_count cX10_count 2 (some FieldType.int) (fun ad _ _ => [.ref (ad 0), .int (hv_I x1)]) mem (f_X10_count x1 mem) := by
  refine hv_start (by decide +kernel) (fun _ _ _ => Nat.le_of_ble_eq_true rfl) ?_
  intro X hc
  have hc : hv_C X cX10_count 2 RX10 (some FieldType.int) 1 0 0 := hc
  show hv_R X 2 0 0 (hv_QX X 0 0 0) (f_X10_count x1 mem) mem [] [(0, .ref (hv_ad X 0)), (1, .int (hv_I x1))] [] 0
  unfold f_X10_count
  refine hv_iload_n hc dX10_count_0 rfl (hv_m 1 rfl) ?_
  refine hv_tswitch (tgts := [48, 53, 58, 66, 74, 79, 92, 97]) (tD := 105) hc dX10_count_1 rfl (by decide) (by decide) ⟨?_, ?_, ?_, ?_, ?_, ?_, ?_, ?_, trivial⟩ ?_
  · refine hv_aload_n hc dX10_count_48 rfl (hv_m 0 rfl) ?_
    refine hv_getI hc fl_X10_97 sh_o_0 rfl dX10_count_49 ?_
    exact hv_iret hc dX10_count_52
  · refine hv_aload_n hc dX10_count_53 rfl (hv_m 0 rfl) ?_
    refine hv_getI hc fl_X10_104 sh_o_0 rfl dX10_count_54 ?_
    exact hv_iret hc dX10_count_57
  · refine hv_aload_n hc dX10_count_58 rfl (hv_m 0 rfl) ?_
    refine hv_getR hc fl_X10_35 sh_o_0 rfl dX10_count_59 ?_
    refine hv_callVi hc (c_X6_versions mem) yv_X6_versions tw_602 sh_o_14 rfl rfl rfl rfl (Nat.le_of_ble_eq_true rfl) (Nat.le_of_ble_eq_true rfl) (Nat.zero_le _) (Nat.zero_le _) dX10_count_62 (fun r1 m2 => ?_)
    exact hv_iret hc dX10_count_65
  · refine hv_aload_n hc dX10_count_66 rfl (hv_m 0 rfl) ?_
    refine hv_getR hc fl_X10_28 sh_o_0 rfl dX10_count_67 ?_
    refine hv_callVi hc (c_X3_known mem) yv_X3_known tw_532 sh_o_11 rfl rfl rfl rfl (Nat.le_of_ble_eq_true rfl) (Nat.le_of_ble_eq_true rfl) (Nat.zero_le _) (Nat.zero_le _) dX10_count_70 (fun r3 m4 => ?_)
    exact hv_iret hc dX10_count_73
  · refine hv_aload_n hc dX10_count_74 rfl (hv_m 0 rfl) ?_
    refine hv_getI hc fl_X10_116 sh_o_0 rfl dX10_count_75 ?_
    exact hv_iret hc dX10_count_78
  · refine hv_aload_n hc dX10_count_79 rfl (hv_m 0 rfl) ?_
    refine hv_getR hc fl_X10_35 sh_o_0 rfl dX10_count_80 ?_
    refine hv_callVi hc (c_X6_versions mem) yv_X6_versions tw_602 sh_o_14 rfl rfl rfl rfl (Nat.le_of_ble_eq_true rfl) (Nat.le_of_ble_eq_true rfl) (Nat.zero_le _) (Nat.zero_le _) dX10_count_83 (fun r5 m6 => ?_)
    refine hv_aload_n hc dX10_count_86 rfl (hv_m 0 rfl) ?_
    refine hv_getI hc fl_X10_116 sh_o_0 rfl dX10_count_87 ?_
    refine hv_isub hc dX10_count_90 ?_
    exact hv_iret hc dX10_count_91
  · refine hv_aload_n hc dX10_count_92 rfl (hv_m 0 rfl) ?_
    refine hv_getI hc fl_X10_110 sh_o_0 rfl dX10_count_93 ?_
    exact hv_iret hc dX10_count_96
  · refine hv_aload_n hc dX10_count_97 rfl (hv_m 0 rfl) ?_
    refine hv_getR hc fl_X10_10 sh_o_0 rfl dX10_count_98 ?_
    refine hv_callVi hc (c_X7_length mem) yv_X7_length tw_343 sh_o_1 rfl rfl rfl rfl (Nat.le_of_ble_eq_true rfl) (Nat.le_of_ble_eq_true rfl) (Nat.zero_le _) (Nat.zero_le _) dX10_count_101 (fun r7 m8 => ?_)
    exact hv_iret hc dX10_count_104
  · refine hv_iconst hc dX10_count_105 ?_
    exact hv_iret hc dX10_count_106
def f_X10_has (x1 : Int) (mem : hMem) : hRs := hv_lt x1 0 (hv_zr 0 mem) (hv_b (f_X6_versions mem) (fun r1 m2 => hv_lt x1 r1 (hv_zr 1 m2) (hv_zr 0 m2)))
set_option maxRecDepth 100000 in
set_option maxHeartbeats 4000000 in
theorem c_X10_has (x1 : Int) (mem : hMem) : hv_Met 1 0 0 0 yX10_has cX10_has 2 (some FieldType.boolean) (fun ad _ _ => [.ref (ad 0), .int (hv_I x1)]) mem (f_X10_has x1 mem) := by
  refine hv_start (by decide +kernel) (fun _ _ _ => Nat.le_of_ble_eq_true rfl) ?_
  intro X hc
  have hc : hv_C X cX10_has 2 RX10 (some FieldType.boolean) 1 0 0 := hc
  show hv_R X 2 0 0 (hv_QX X 0 0 0) (f_X10_has x1 mem) mem [] [(0, .ref (hv_ad X 0)), (1, .int (hv_I x1))] [] 0
  unfold f_X10_has
  refine hv_iload_n hc dX10_has_0 rfl (hv_m 1 rfl) ?_
  refine hv_if_lt (tgt := 19) hc dX10_has_1 (by decide) ?_ ?_
  · refine hv_iconst hc dX10_has_19 ?_
    exact hv_zret hc dX10_has_20
  · refine hv_iload_n hc dX10_has_4 rfl (hv_m 1 rfl) ?_
    refine hv_aload_n hc dX10_has_5 rfl (hv_m 0 rfl) ?_
    refine hv_getR hc fl_X10_35 sh_o_0 rfl dX10_has_6 ?_
    refine hv_callVi hc (c_X6_versions mem) yv_X6_versions tw_602 sh_o_14 rfl rfl rfl rfl (Nat.le_of_ble_eq_true rfl) (Nat.le_of_ble_eq_true rfl) (Nat.zero_le _) (Nat.zero_le _) dX10_has_9 (fun r1 m2 => ?_)
    refine hv_icmp_ge (tgt := 19) hc dX10_has_12 (by decide) ?_ ?_
    · refine hv_iconst hc dX10_has_19 ?_
      exact hv_zret hc dX10_has_20
    · refine hv_iconst hc dX10_has_15 ?_
      refine hv_goto (tgt := 20) hc dX10_has_16 (by decide) ?_
      exact hv_zret hc dX10_has_20
def f_X10_version (x1 x2 : Int) (mem : hMem) : hRs := hv_b (f_X10_has x1 mem) (fun r1 m2 => hv_eq r1 0 (hv_ret ((-2)) m2) (hv_tsw x2 0 [hv_b (f_X6_howOf x1 m2) (fun r3 m4 => hv_ret r3 m4), hv_b (f_X6_firstOf x1 m2) (fun r5 m6 => hv_ret r5 m6), hv_b (f_X6_secondOf x1 m2) (fun r7 m8 => hv_ret r7 m8), hv_b (f_X6_jobOf x1 m2) (fun r9 m10 => hv_ret r9 m10)] (hv_ret ((-2)) m2)))
set_option maxRecDepth 100000 in
set_option maxHeartbeats 4000000 in
theorem c_X10_version (x1 x2 : Int) (mem : hMem) : hv_Met 2 0 0 0 yX10_version cX10_version 3 (some FieldType.int) (fun ad _ _ => [.ref (ad 0), .int (hv_I x1), .int (hv_I x2)]) mem (f_X10_version x1 x2 mem) := by
  refine hv_start (by decide +kernel) (fun _ _ _ => Nat.le_of_ble_eq_true rfl) ?_
  intro X hc
  have hc : hv_C X cX10_version 3 RX10 (some FieldType.int) 2 0 0 := hc
  show hv_R X 3 0 0 (hv_QX X 0 0 0) (f_X10_version x1 x2 mem) mem [] [(0, .ref (hv_ad X 0)), (1, .int (hv_I x1)), (2, .int (hv_I x2))] [] 0
  unfold f_X10_version
  refine hv_aload_n hc dX10_version_0 rfl (hv_m 0 rfl) ?_
  refine hv_iload_n hc dX10_version_1 rfl (hv_m 1 rfl) ?_
  refine hv_callVi hc (c_X10_has x1 mem) yv_X10_has tw_803 sh_o_0 rfl rfl rfl rfl (Nat.le_of_ble_eq_true rfl) (Nat.le_of_ble_eq_true rfl) (Nat.zero_le _) (Nat.zero_le _) dX10_version_2 (fun r1 m2 => ?_)
  refine hv_if_ne (tgt := 11) hc dX10_version_5 (by decide) ?_ ?_
  · refine hv_iload_n hc dX10_version_11 rfl (hv_m 2 rfl) ?_
    refine hv_tswitch (tgts := [44, 53, 62, 71]) (tD := 80) hc dX10_version_12 rfl (by decide) (by decide) ⟨?_, ?_, ?_, ?_, trivial⟩ ?_
    · refine hv_aload_n hc dX10_version_44 rfl (hv_m 0 rfl) ?_
      refine hv_getR hc fl_X10_35 sh_o_0 rfl dX10_version_45 ?_
      refine hv_iload_n hc dX10_version_48 rfl (hv_m 1 rfl) ?_
      refine hv_callVi hc (c_X6_howOf x1 m2) yv_X6_howOf tw_807 sh_o_14 rfl rfl rfl rfl (Nat.le_of_ble_eq_true rfl) (Nat.le_of_ble_eq_true rfl) (Nat.zero_le _) (Nat.zero_le _) dX10_version_49 (fun r3 m4 => ?_)
      exact hv_iret hc dX10_version_52
    · refine hv_aload_n hc dX10_version_53 rfl (hv_m 0 rfl) ?_
      refine hv_getR hc fl_X10_35 sh_o_0 rfl dX10_version_54 ?_
      refine hv_iload_n hc dX10_version_57 rfl (hv_m 1 rfl) ?_
      refine hv_callVi hc (c_X6_firstOf x1 m2) yv_X6_firstOf tw_808 sh_o_14 rfl rfl rfl rfl (Nat.le_of_ble_eq_true rfl) (Nat.le_of_ble_eq_true rfl) (Nat.zero_le _) (Nat.zero_le _) dX10_version_58 (fun r5 m6 => ?_)
      exact hv_iret hc dX10_version_61
    · refine hv_aload_n hc dX10_version_62 rfl (hv_m 0 rfl) ?_
      refine hv_getR hc fl_X10_35 sh_o_0 rfl dX10_version_63 ?_
      refine hv_iload_n hc dX10_version_66 rfl (hv_m 1 rfl) ?_
      refine hv_callVi hc (c_X6_secondOf x1 m2) yv_X6_secondOf tw_812 sh_o_14 rfl rfl rfl rfl (Nat.le_of_ble_eq_true rfl) (Nat.le_of_ble_eq_true rfl) (Nat.zero_le _) (Nat.zero_le _) dX10_version_67 (fun r7 m8 => ?_)
      exact hv_iret hc dX10_version_70
    · refine hv_aload_n hc dX10_version_71 rfl (hv_m 0 rfl) ?_
      refine hv_getR hc fl_X10_35 sh_o_0 rfl dX10_version_72 ?_
      refine hv_iload_n hc dX10_version_75 rfl (hv_m 1 rfl) ?_
      refine hv_callVi hc (c_X6_jobOf x1 m2) yv_X6_jobOf tw_816 sh_o_14 rfl rfl rfl rfl (Nat.le_of_ble_eq_true rfl) (Nat.le_of_ble_eq_true rfl) (Nat.zero_le _) (Nat.zero_le _) dX10_version_76 (fun r9 m10 => ?_)
      exact hv_iret hc dX10_version_79
    · refine hv_bipush hc dX10_version_80 (by decide) ?_
      exact hv_iret hc dX10_version_82
  · refine hv_bipush hc dX10_version_8 (by decide) ?_
    exact hv_iret hc dX10_version_10
def f_X10_job (x1 x2 : Int) (mem : hMem) : hRs := hv_b (f_X3_has x1 mem) (fun r1 m2 => hv_eq r1 0 (hv_ret ((-2)) m2) (hv_eq x2 0 (hv_b (f_X3_keyOf x1 m2) (fun r3 m4 => hv_ret r3 m4)) (hv_eq x2 1 (hv_b (f_X3_timeOf x1 m2) (fun r5 m6 => hv_ret r5 m6)) (hv_ret ((-2)) m2))))
set_option maxRecDepth 100000 in
set_option maxHeartbeats 4000000 in
theorem c_X10_job (x1 x2 : Int) (mem : hMem) : hv_Met 2 0 0 0 yX10_job cX10_job 3 (some FieldType.int) (fun ad _ _ => [.ref (ad 0), .int (hv_I x1), .int (hv_I x2)]) mem (f_X10_job x1 x2 mem) := by
  refine hv_start (by decide +kernel) (fun _ _ _ => Nat.le_of_ble_eq_true rfl) ?_
  intro X hc
  have hc : hv_C X cX10_job 3 RX10 (some FieldType.int) 2 0 0 := hc
  show hv_R X 3 0 0 (hv_QX X 0 0 0) (f_X10_job x1 x2 mem) mem [] [(0, .ref (hv_ad X 0)), (1, .int (hv_I x1)), (2, .int (hv_I x2))] [] 0
  unfold f_X10_job
  refine hv_aload_n hc dX10_job_0 rfl (hv_m 0 rfl) ?_
  refine hv_getR hc fl_X10_28 sh_o_0 rfl dX10_job_1 ?_
  refine hv_iload_n hc dX10_job_4 rfl (hv_m 1 rfl) ?_
  refine hv_callVi hc (c_X3_has x1 mem) yv_X3_has tw_824 sh_o_11 rfl rfl rfl rfl (Nat.le_of_ble_eq_true rfl) (Nat.le_of_ble_eq_true rfl) (Nat.zero_le _) (Nat.zero_le _) dX10_job_5 (fun r1 m2 => ?_)
  refine hv_if_ne (tgt := 14) hc dX10_job_8 (by decide) ?_ ?_
  · refine hv_iload_n hc dX10_job_14 rfl (hv_m 2 rfl) ?_
    refine hv_lsw01 (t0 := 40) (t1 := 49) (tD := 58) hc dX10_job_15 (by decide) (by decide) (by decide) ?_ ?_ ?_
    · refine hv_aload_n hc dX10_job_40 rfl (hv_m 0 rfl) ?_
      refine hv_getR hc fl_X10_28 sh_o_0 rfl dX10_job_41 ?_
      refine hv_iload_n hc dX10_job_44 rfl (hv_m 1 rfl) ?_
      refine hv_callVi hc (c_X3_keyOf x1 m2) yv_X3_keyOf tw_828 sh_o_11 rfl rfl rfl rfl (Nat.le_of_ble_eq_true rfl) (Nat.le_of_ble_eq_true rfl) (Nat.zero_le _) (Nat.zero_le _) dX10_job_45 (fun r3 m4 => ?_)
      exact hv_iret hc dX10_job_48
    · refine hv_aload_n hc dX10_job_49 rfl (hv_m 0 rfl) ?_
      refine hv_getR hc fl_X10_28 sh_o_0 rfl dX10_job_50 ?_
      refine hv_iload_n hc dX10_job_53 rfl (hv_m 1 rfl) ?_
      refine hv_callVi hc (c_X3_timeOf x1 m2) yv_X3_timeOf tw_829 sh_o_11 rfl rfl rfl rfl (Nat.le_of_ble_eq_true rfl) (Nat.le_of_ble_eq_true rfl) (Nat.zero_le _) (Nat.zero_le _) dX10_job_54 (fun r5 m6 => ?_)
      exact hv_iret hc dX10_job_57
    · refine hv_bipush hc dX10_job_58 (by decide) ?_
      exact hv_iret hc dX10_job_60
  · refine hv_bipush hc dX10_job_11 (by decide) ?_
    exact hv_iret hc dX10_job_13
def f_X10_size (x1 : Int) (mem : hMem) : hRs := hv_b (f_X10_has x1 mem) (fun r1 m2 => hv_eq r1 0 (hv_ret ((-2)) m2) (hv_b (f_X0_sizeOf 20 x1 m2) (fun r3 m4 => hv_ret r3 m4)))
set_option maxRecDepth 100000 in
set_option maxHeartbeats 4000000 in
theorem c_X10_size (x1 : Int) (mem : hMem) : hv_Met 2 0 0 0 yX10_size cX10_size 2 (some FieldType.int) (fun ad _ _ => [.ref (ad 0), .int (hv_I x1)]) mem (f_X10_size x1 mem) := by
  refine hv_start (by decide +kernel) (fun _ _ _ => Nat.le_of_ble_eq_true rfl) ?_
  intro X hc
  have hc : hv_C X cX10_size 2 RX10 (some FieldType.int) 2 0 0 := hc
  show hv_R X 2 0 0 (hv_QX X 0 0 0) (f_X10_size x1 mem) mem [] [(0, .ref (hv_ad X 0)), (1, .int (hv_I x1))] [] 0
  unfold f_X10_size
  refine hv_aload_n hc dX10_size_0 rfl (hv_m 0 rfl) ?_
  refine hv_iload_n hc dX10_size_1 rfl (hv_m 1 rfl) ?_
  refine hv_callVi hc (c_X10_has x1 mem) yv_X10_has tw_803 sh_o_0 rfl rfl rfl rfl (Nat.le_of_ble_eq_true rfl) (Nat.le_of_ble_eq_true rfl) (Nat.zero_le _) (Nat.zero_le _) dX10_size_2 (fun r1 m2 => ?_)
  refine hv_if_eq (tgt := 19) hc dX10_size_5 (by decide) ?_ ?_
  · refine hv_bipush hc dX10_size_19 (by decide) ?_
    exact hv_iret hc dX10_size_21
  · refine hv_aload_n hc dX10_size_8 rfl (hv_m 0 rfl) ?_
    refine hv_getR hc fl_X10_42 sh_o_0 rfl dX10_size_9 ?_
    refine hv_iload_n hc dX10_size_12 rfl (hv_m 1 rfl) ?_
    refine hv_callVi hc (c_X0_sizeOf 20 (by decide) x1 m2) yv_X0_sizeOf tw_837 sh_o_20 rfl rfl rfl rfl (Nat.le_of_ble_eq_true rfl) (Nat.le_of_ble_eq_true rfl) (Nat.zero_le _) (Nat.zero_le _) dX10_size_13 (fun r3 m4 => ?_)
    refine hv_goto (tgt := 21) hc dX10_size_16 (by decide) ?_
    exact hv_iret hc dX10_size_21
def f_X10_least (x1 : Int) (mem : hMem) : hRs := hv_b (f_X10_has x1 mem) (fun r1 m2 => hv_eq r1 0 (hv_ret ((-2)) m2) (hv_b (f_X0_jobAt 20 x1 0 m2) (fun r3 m4 => hv_ret r3 m4)))
set_option maxRecDepth 100000 in
set_option maxHeartbeats 4000000 in
theorem c_X10_least (x1 : Int) (mem : hMem) : hv_Met 3 0 0 0 yX10_least cX10_least 2 (some FieldType.int) (fun ad _ _ => [.ref (ad 0), .int (hv_I x1)]) mem (f_X10_least x1 mem) := by
  refine hv_start (by decide +kernel) (fun _ _ _ => Nat.le_of_ble_eq_true rfl) ?_
  intro X hc
  have hc : hv_C X cX10_least 2 RX10 (some FieldType.int) 3 0 0 := hc
  show hv_R X 2 0 0 (hv_QX X 0 0 0) (f_X10_least x1 mem) mem [] [(0, .ref (hv_ad X 0)), (1, .int (hv_I x1))] [] 0
  unfold f_X10_least
  refine hv_aload_n hc dX10_least_0 rfl (hv_m 0 rfl) ?_
  refine hv_iload_n hc dX10_least_1 rfl (hv_m 1 rfl) ?_
  refine hv_callVi hc (c_X10_has x1 mem) yv_X10_has tw_803 sh_o_0 rfl rfl rfl rfl (Nat.le_of_ble_eq_true rfl) (Nat.le_of_ble_eq_true rfl) (Nat.zero_le _) (Nat.zero_le _) dX10_least_2 (fun r1 m2 => ?_)
  refine hv_if_eq (tgt := 20) hc dX10_least_5 (by decide) ?_ ?_
  · refine hv_bipush hc dX10_least_20 (by decide) ?_
    exact hv_iret hc dX10_least_22
  · refine hv_aload_n hc dX10_least_8 rfl (hv_m 0 rfl) ?_
    refine hv_getR hc fl_X10_42 sh_o_0 rfl dX10_least_9 ?_
    refine hv_iload_n hc dX10_least_12 rfl (hv_m 1 rfl) ?_
    refine hv_iconst hc dX10_least_13 ?_
    refine hv_callVi hc (c_X0_jobAt 20 (by decide) x1 0 m2) yv_X0_jobAt tw_611 sh_o_20 rfl rfl rfl rfl (Nat.le_of_ble_eq_true rfl) (Nat.le_of_ble_eq_true rfl) (Nat.zero_le _) (Nat.zero_le _) dX10_least_14 (fun r3 m4 => ?_)
    refine hv_goto (tgt := 22) hc dX10_least_17 (by decide) ?_
    exact hv_iret hc dX10_least_22
def f_X10_place (x1 x2 : Int) (mem : hMem) : hRs := hv_b (f_X10_has x1 mem) (fun r1 m2 => hv_eq r1 0 (hv_ret ((-2)) m2) (hv_lt x2 0 (hv_ret ((-2)) m2) (hv_b (f_X0_jobAt 20 x1 x2 m2) (fun r3 m4 => hv_ret r3 m4))))
set_option maxRecDepth 100000 in
set_option maxHeartbeats 4000000 in
theorem c_X10_place (x1 x2 : Int) (mem : hMem) : hv_Met 3 0 0 0 yX10_place cX10_place 3 (some FieldType.int) (fun ad _ _ => [.ref (ad 0), .int (hv_I x1), .int (hv_I x2)]) mem (f_X10_place x1 x2 mem) := by
  refine hv_start (by decide +kernel) (fun _ _ _ => Nat.le_of_ble_eq_true rfl) ?_
  intro X hc
  have hc : hv_C X cX10_place 3 RX10 (some FieldType.int) 3 0 0 := hc
  show hv_R X 3 0 0 (hv_QX X 0 0 0) (f_X10_place x1 x2 mem) mem [] [(0, .ref (hv_ad X 0)), (1, .int (hv_I x1)), (2, .int (hv_I x2))] [] 0
  unfold f_X10_place
  refine hv_aload_n hc dX10_place_0 rfl (hv_m 0 rfl) ?_
  refine hv_iload_n hc dX10_place_1 rfl (hv_m 1 rfl) ?_
  refine hv_callVi hc (c_X10_has x1 mem) yv_X10_has tw_803 sh_o_0 rfl rfl rfl rfl (Nat.le_of_ble_eq_true rfl) (Nat.le_of_ble_eq_true rfl) (Nat.zero_le _) (Nat.zero_le _) dX10_place_2 (fun r1 m2 => ?_)
  refine hv_if_eq (tgt := 24) hc dX10_place_5 (by decide) ?_ ?_
  · refine hv_bipush hc dX10_place_24 (by decide) ?_
    exact hv_iret hc dX10_place_26
  · refine hv_iload_n hc dX10_place_8 rfl (hv_m 2 rfl) ?_
    refine hv_if_lt (tgt := 24) hc dX10_place_9 (by decide) ?_ ?_
    · refine hv_bipush hc dX10_place_24 (by decide) ?_
      exact hv_iret hc dX10_place_26
    · refine hv_aload_n hc dX10_place_12 rfl (hv_m 0 rfl) ?_
      refine hv_getR hc fl_X10_42 sh_o_0 rfl dX10_place_13 ?_
      refine hv_iload_n hc dX10_place_16 rfl (hv_m 1 rfl) ?_
      refine hv_iload_n hc dX10_place_17 rfl (hv_m 2 rfl) ?_
      refine hv_callVi hc (c_X0_jobAt 20 (by decide) x1 x2 m2) yv_X0_jobAt tw_611 sh_o_20 rfl rfl rfl rfl (Nat.le_of_ble_eq_true rfl) (Nat.le_of_ble_eq_true rfl) (Nat.zero_le _) (Nat.zero_le _) dX10_place_18 (fun r3 m4 => ?_)
      refine hv_goto (tgt := 26) hc dX10_place_21 (by decide) ?_
      exact hv_iret hc dX10_place_26
def f_X10_times (x1 x2 : Int) (mem : hMem) : hRs := hv_b (f_X10_has x1 mem) (fun r1 m2 => hv_eq r1 0 (hv_ret ((-2)) m2) (hv_b (f_X3_has x2 m2) (fun r3 m4 => hv_eq r3 0 (hv_ret ((-2)) m4) (hv_b (f_X3_turnOf x2 m4) (fun r5 m6 => hv_b (f_X0_timesOf 20 x1 r5 m6) (fun r7 m8 => hv_ret r7 m8))))))
set_option maxRecDepth 100000 in
set_option maxHeartbeats 4000000 in
theorem c_X10_times (x1 x2 : Int) (mem : hMem) : hv_Met 3 0 0 0 yX10_times cX10_times 3 (some FieldType.int) (fun ad _ _ => [.ref (ad 0), .int (hv_I x1), .int (hv_I x2)]) mem (f_X10_times x1 x2 mem) := by
  refine hv_start (by decide +kernel) (fun _ _ _ => Nat.le_of_ble_eq_true rfl) ?_
  intro X hc
  have hc : hv_C X cX10_times 3 RX10 (some FieldType.int) 3 0 0 := hc
  show hv_R X 3 0 0 (hv_QX X 0 0 0) (f_X10_times x1 x2 mem) mem [] [(0, .ref (hv_ad X 0)), (1, .int (hv_I x1)), (2, .int (hv_I x2))] [] 0
  unfold f_X10_times
  refine hv_aload_n hc dX10_times_0 rfl (hv_m 0 rfl) ?_
  refine hv_iload_n hc dX10_times_1 rfl (hv_m 1 rfl) ?_
  refine hv_callVi hc (c_X10_has x1 mem) yv_X10_has tw_803 sh_o_0 rfl rfl rfl rfl (Nat.le_of_ble_eq_true rfl) (Nat.le_of_ble_eq_true rfl) (Nat.zero_le _) (Nat.zero_le _) dX10_times_2 (fun r1 m2 => ?_)
  refine hv_if_eq (tgt := 38) hc dX10_times_5 (by decide) ?_ ?_
  · refine hv_bipush hc dX10_times_38 (by decide) ?_
    exact hv_iret hc dX10_times_40
  · refine hv_aload_n hc dX10_times_8 rfl (hv_m 0 rfl) ?_
    refine hv_getR hc fl_X10_28 sh_o_0 rfl dX10_times_9 ?_
    refine hv_iload_n hc dX10_times_12 rfl (hv_m 2 rfl) ?_
    refine hv_callVi hc (c_X3_has x2 m2) yv_X3_has tw_824 sh_o_11 rfl rfl rfl rfl (Nat.le_of_ble_eq_true rfl) (Nat.le_of_ble_eq_true rfl) (Nat.zero_le _) (Nat.zero_le _) dX10_times_13 (fun r3 m4 => ?_)
    refine hv_if_eq (tgt := 38) hc dX10_times_16 (by decide) ?_ ?_
    · refine hv_bipush hc dX10_times_38 (by decide) ?_
      exact hv_iret hc dX10_times_40
    · refine hv_aload_n hc dX10_times_19 rfl (hv_m 0 rfl) ?_
      refine hv_getR hc fl_X10_42 sh_o_0 rfl dX10_times_20 ?_
      refine hv_iload_n hc dX10_times_23 rfl (hv_m 1 rfl) ?_
      refine hv_aload_n hc dX10_times_24 rfl (hv_m 0 rfl) ?_
      refine hv_getR hc fl_X10_28 sh_o_0 rfl dX10_times_25 ?_
      refine hv_iload_n hc dX10_times_28 rfl (hv_m 2 rfl) ?_
      refine hv_callVi hc (c_X3_turnOf x2 m4) yv_X3_turnOf tw_627 sh_o_11 rfl rfl rfl rfl (Nat.le_of_ble_eq_true rfl) (Nat.le_of_ble_eq_true rfl) (Nat.zero_le _) (Nat.zero_le _) dX10_times_29 (fun r5 m6 => ?_)
      refine hv_callVi hc (c_X0_timesOf 20 (by decide) x1 r5 m6) yv_X0_timesOf tw_850 sh_o_20 rfl rfl rfl rfl (Nat.le_of_ble_eq_true rfl) (Nat.le_of_ble_eq_true rfl) (Nat.zero_le _) (Nat.zero_le _) dX10_times_32 (fun r7 m8 => ?_)
      refine hv_goto (tgt := 40) hc dX10_times_35 (by decide) ?_
      exact hv_iret hc dX10_times_40
def f_X10_heaps (mem : hMem) : hRs := hv_eq (mem 0 10) 1 (hv_ret ((42 : Nat) : Int) mem) (hv_ret ((26 : Nat) : Int) mem)
set_option maxRecDepth 100000 in
set_option maxHeartbeats 4000000 in
theorem c_X10_heaps (mem : hMem) : hv_Met 0 0 0 2 yX10_heaps cX10_heaps 1 (some (FieldType.object "HeapVersions$Heaps")) (fun ad _ _ => [.ref (ad 0)]) mem (f_X10_heaps mem) := by
  refine hv_start (by decide +kernel) (fun _ _ _ => Nat.le_of_ble_eq_true rfl) ?_
  intro X hc
  have hc : hv_C X cX10_heaps 1 RX10 (some (FieldType.object "HeapVersions$Heaps")) 0 0 0 := hc
  show hv_R X 1 0 0 (hv_QX X 2 0 0) (f_X10_heaps mem) mem [] [(0, .ref (hv_ad X 0))] [] 0
  unfold f_X10_heaps
  refine hv_aload_n hc dX10_heaps_0 rfl (hv_m 0 rfl) ?_
  refine hv_getI hc fl_X10_97 sh_o_0 rfl dX10_heaps_1 ?_
  refine hv_iconst hc dX10_heaps_4 ?_
  refine hv_icmp_ne (tgt := 15) hc dX10_heaps_5 (by decide) ?_ ?_
  · refine hv_aload_n hc dX10_heaps_15 rfl (hv_m 0 rfl) ?_
    refine hv_getR hc fl_X10_54 sh_o_0 rfl dX10_heaps_16 ?_
    exact hv_aret hc dX10_heaps_19
  · refine hv_aload_n hc dX10_heaps_8 rfl (hv_m 0 rfl) ?_
    refine hv_getR hc fl_X10_58 sh_o_0 rfl dX10_heaps_9 ?_
    refine hv_goto (tgt := 19) hc dX10_heaps_12 (by decide) ?_
    exact hv_aret hc dX10_heaps_19
def f_X10_trees (x1 : Int) (mem : hMem) : hRs := hv_b (f_X10_has x1 mem) (fun r1 m2 => hv_eq r1 0 (hv_ret ((-2)) m2) (hv_b (f_X10_heaps m2) (fun r3 m4 => hv_is 26 42 r3 (fun b5 => hv_b (f_X2_treesOf b5 x1 m4) (fun r6 m7 => hv_ret r6 m7)))))
set_option maxRecDepth 100000 in
set_option maxHeartbeats 4000000 in
theorem c_X10_trees (x1 : Int) (mem : hMem) : hv_Met 3 0 0 0 yX10_trees cX10_trees 2 (some FieldType.int) (fun ad _ _ => [.ref (ad 0), .int (hv_I x1)]) mem (f_X10_trees x1 mem) := by
  refine hv_start (by decide +kernel) (fun _ _ _ => Nat.le_of_ble_eq_true rfl) ?_
  intro X hc
  have hc : hv_C X cX10_trees 2 RX10 (some FieldType.int) 3 0 0 := hc
  show hv_R X 2 0 0 (hv_QX X 0 0 0) (f_X10_trees x1 mem) mem [] [(0, .ref (hv_ad X 0)), (1, .int (hv_I x1))] [] 0
  unfold f_X10_trees
  refine hv_aload_n hc dX10_trees_0 rfl (hv_m 0 rfl) ?_
  refine hv_iload_n hc dX10_trees_1 rfl (hv_m 1 rfl) ?_
  refine hv_callVi hc (c_X10_has x1 mem) yv_X10_has tw_803 sh_o_0 rfl rfl rfl rfl (Nat.le_of_ble_eq_true rfl) (Nat.le_of_ble_eq_true rfl) (Nat.zero_le _) (Nat.zero_le _) dX10_trees_2 (fun r1 m2 => ?_)
  refine hv_if_eq (tgt := 19) hc dX10_trees_5 (by decide) ?_ ?_
  · refine hv_bipush hc dX10_trees_19 (by decide) ?_
    exact hv_iret hc dX10_trees_21
  · refine hv_aload_n hc dX10_trees_8 rfl (hv_m 0 rfl) ?_
    refine hv_callVa hc (c_X10_heaps m2) yv_X10_heaps tw_858 sh_o_0 rfl rfl rfl rfl (Nat.le_of_ble_eq_true rfl) (Nat.le_of_ble_eq_true rfl) (Nat.zero_le _) (Nat.zero_le _) dX10_trees_9 (fun r3 m4 => ?_)
    refine hv_isR (p := 26) (q := 42) (fun b5 hb5 => ?_)
    refine hv_iload_n hc dX10_trees_12 rfl (hv_m 1 rfl) ?_
    refine hv_callVi hc (c_X2_treesOf b5 hb5 x1 m4) yv_X2_treesOf tw_862 (sh_X2 hb5) rfl rfl rfl rfl (Nat.le_of_ble_eq_true rfl) (Nat.le_of_ble_eq_true rfl) (Nat.zero_le _) (Nat.zero_le _) dX10_trees_13 (fun r6 m7 => ?_)
    refine hv_goto (tgt := 21) hc dX10_trees_16 (by decide) ?_
    exact hv_iret hc dX10_trees_21
def f_X10_treeAt (x1 x2 : Int) (mem : hMem) : hRs := hv_b (f_X10_has x1 mem) (fun r1 m2 => hv_eq r1 0 (hv_ret ((-2)) m2) (hv_lt x2 0 (hv_ret ((-2)) m2) (hv_b (f_X10_heaps m2) (fun r3 m4 => hv_is 26 42 r3 (fun b5 => hv_b (f_X2_treeOf b5 x1 x2 m4) (fun r6 m7 => hv_eq r6 0 (hv_ret ((-1)) m7) (hv_ret r6 m7)))))))
set_option maxRecDepth 100000 in
set_option maxHeartbeats 4000000 in
theorem c_X10_treeAt (x1 x2 : Int) (mem : hMem) : hv_Met 3 0 0 0 yX10_treeAt cX10_treeAt 4 (some FieldType.int) (fun ad _ _ => [.ref (ad 0), .int (hv_I x1), .int (hv_I x2)]) mem (f_X10_treeAt x1 x2 mem) := by
  refine hv_start (by decide +kernel) (fun _ _ _ => Nat.le_of_ble_eq_true rfl) ?_
  intro X hc
  have hc : hv_C X cX10_treeAt 4 RX10 (some FieldType.int) 3 0 0 := hc
  show hv_R X 4 0 0 (hv_QX X 0 0 0) (f_X10_treeAt x1 x2 mem) mem [] [(0, .ref (hv_ad X 0)), (1, .int (hv_I x1)), (2, .int (hv_I x2))] [] 0
  unfold f_X10_treeAt
  refine hv_aload_n hc dX10_treeAt_0 rfl (hv_m 0 rfl) ?_
  refine hv_iload_n hc dX10_treeAt_1 rfl (hv_m 1 rfl) ?_
  refine hv_callVi hc (c_X10_has x1 mem) yv_X10_has tw_803 sh_o_0 rfl rfl rfl rfl (Nat.le_of_ble_eq_true rfl) (Nat.le_of_ble_eq_true rfl) (Nat.zero_le _) (Nat.zero_le _) dX10_treeAt_2 (fun r1 m2 => ?_)
  refine hv_if_eq (tgt := 12) hc dX10_treeAt_5 (by decide) ?_ ?_
  · refine hv_bipush hc dX10_treeAt_12 (by decide) ?_
    exact hv_iret hc dX10_treeAt_14
  · refine hv_iload_n hc dX10_treeAt_8 rfl (hv_m 2 rfl) ?_
    refine hv_if_ge (tgt := 15) hc dX10_treeAt_9 (by decide) ?_ ?_
    · refine hv_aload_n hc dX10_treeAt_15 rfl (hv_m 0 rfl) ?_
      refine hv_callVa hc (c_X10_heaps m2) yv_X10_heaps tw_858 sh_o_0 rfl rfl rfl rfl (Nat.le_of_ble_eq_true rfl) (Nat.le_of_ble_eq_true rfl) (Nat.zero_le _) (Nat.zero_le _) dX10_treeAt_16 (fun r3 m4 => ?_)
      refine hv_isR (p := 26) (q := 42) (fun b5 hb5 => ?_)
      refine hv_iload_n hc dX10_treeAt_19 rfl (hv_m 1 rfl) ?_
      refine hv_iload_n hc dX10_treeAt_20 rfl (hv_m 2 rfl) ?_
      refine hv_callVi hc (c_X2_treeOf b5 hb5 x1 x2 m4) yv_X2_treeOf tw_878 (sh_X2 hb5) rfl rfl rfl rfl (Nat.le_of_ble_eq_true rfl) (Nat.le_of_ble_eq_true rfl) (Nat.zero_le _) (Nat.zero_le _) dX10_treeAt_21 (fun r6 m7 => ?_)
      refine hv_istore_n (lv' := [(3, .int (hv_I r6)), (0, .ref (hv_ad X 0)), (1, .int (hv_I x1)), (2, .int (hv_I x2))]) hc dX10_treeAt_24 rfl (by decide) rfl ?_
      refine hv_iload_n hc dX10_treeAt_25 rfl (hv_m 0 rfl) ?_
      refine hv_if_ne (tgt := 33) hc dX10_treeAt_26 (by decide) ?_ ?_
      · refine hv_iload_n hc dX10_treeAt_33 rfl (hv_m 0 rfl) ?_
        exact hv_iret hc dX10_treeAt_34
      · refine hv_iconst hc dX10_treeAt_29 ?_
        refine hv_goto (tgt := 34) hc dX10_treeAt_30 (by decide) ?_
        exact hv_iret hc dX10_treeAt_34
    · refine hv_bipush hc dX10_treeAt_12 (by decide) ?_
      exact hv_iret hc dX10_treeAt_14
def f_X10_rank (x1 x2 : Int) (mem : hMem) : hRs := hv_b (f_X10_treeAt x1 x2 mem) (fun r1 m2 => hv_lt r1 0 (hv_ret r1 m2) (hv_b (f_X10_heaps m2) (fun r3 m4 => hv_is 26 42 r3 (fun b5 => hv_b (f_X2_cells b5 m4) (fun r6 m7 => hv_is 27 43 r6 (fun b8 => hv_b (f_X1_rankOf b8 r1 m7) (fun r9 m10 => hv_ret r9 m10)))))))
set_option maxRecDepth 100000 in
set_option maxHeartbeats 4000000 in
theorem c_X10_rank (x1 x2 : Int) (mem : hMem) : hv_Met 4 0 0 0 yX10_rank cX10_rank 4 (some FieldType.int) (fun ad _ _ => [.ref (ad 0), .int (hv_I x1), .int (hv_I x2)]) mem (f_X10_rank x1 x2 mem) := by
  refine hv_start (by decide +kernel) (fun _ _ _ => Nat.le_of_ble_eq_true rfl) ?_
  intro X hc
  have hc : hv_C X cX10_rank 4 RX10 (some FieldType.int) 4 0 0 := hc
  show hv_R X 4 0 0 (hv_QX X 0 0 0) (f_X10_rank x1 x2 mem) mem [] [(0, .ref (hv_ad X 0)), (1, .int (hv_I x1)), (2, .int (hv_I x2))] [] 0
  unfold f_X10_rank
  refine hv_aload_n hc dX10_rank_0 rfl (hv_m 0 rfl) ?_
  refine hv_iload_n hc dX10_rank_1 rfl (hv_m 1 rfl) ?_
  refine hv_iload_n hc dX10_rank_2 rfl (hv_m 2 rfl) ?_
  refine hv_callVi hc (c_X10_treeAt x1 x2 mem) yv_X10_treeAt tw_874 sh_o_0 rfl rfl rfl rfl (Nat.le_of_ble_eq_true rfl) (Nat.le_of_ble_eq_true rfl) (Nat.zero_le _) (Nat.zero_le _) dX10_rank_3 (fun r1 m2 => ?_)
  refine hv_istore_n (lv' := [(3, .int (hv_I r1)), (0, .ref (hv_ad X 0)), (1, .int (hv_I x1)), (2, .int (hv_I x2))]) hc dX10_rank_6 rfl (by decide) rfl ?_
  refine hv_iload_n hc dX10_rank_7 rfl (hv_m 0 rfl) ?_
  refine hv_if_ge (tgt := 15) hc dX10_rank_8 (by decide) ?_ ?_
  · refine hv_aload_n hc dX10_rank_15 rfl (hv_m 1 rfl) ?_
    refine hv_callVa hc (c_X10_heaps m2) yv_X10_heaps tw_858 sh_o_0 rfl rfl rfl rfl (Nat.le_of_ble_eq_true rfl) (Nat.le_of_ble_eq_true rfl) (Nat.zero_le _) (Nat.zero_le _) dX10_rank_16 (fun r3 m4 => ?_)
    refine hv_isR (p := 26) (q := 42) (fun b5 hb5 => ?_)
    refine hv_callVa hc (c_X2_cells b5 hb5 m4) yv_X2_cells tw_882 (sh_X2 hb5) rfl rfl rfl rfl (Nat.le_of_ble_eq_true rfl) (Nat.le_of_ble_eq_true rfl) (Nat.zero_le _) (Nat.zero_le _) dX10_rank_19 (fun r6 m7 => ?_)
    refine hv_isR (p := 27) (q := 43) (fun b8 hb8 => ?_)
    refine hv_iload_n hc dX10_rank_22 rfl (hv_m 0 rfl) ?_
    refine hv_callVi hc (c_X1_rankOf b8 hb8 r1 m7) yv_X1_rankOf tw_886 (sh_X1 hb8) rfl rfl rfl rfl (Nat.le_of_ble_eq_true rfl) (Nat.le_of_ble_eq_true rfl) (Nat.zero_le _) (Nat.zero_le _) dX10_rank_23 (fun r9 m10 => ?_)
    exact hv_iret hc dX10_rank_26
  · refine hv_iload_n hc dX10_rank_11 rfl (hv_m 0 rfl) ?_
    refine hv_goto (tgt := 26) hc dX10_rank_12 (by decide) ?_
    exact hv_iret hc dX10_rank_26
def f_X10_holds (x1 x2 : Int) (mem : hMem) : hRs := hv_b (f_X10_treeAt x1 x2 mem) (fun r1 m2 => hv_lt r1 0 (hv_ret r1 m2) (hv_b (f_X10_heaps m2) (fun r3 m4 => hv_is 26 42 r3 (fun b5 => hv_b (f_X2_cells b5 m4) (fun r6 m7 => hv_is 27 43 r6 (fun b8 => hv_b (f_X1_holdsOf b8 r1 m7) (fun r9 m10 => hv_ret r9 m10)))))))
set_option maxRecDepth 100000 in
set_option maxHeartbeats 4000000 in
theorem c_X10_holds (x1 x2 : Int) (mem : hMem) : hv_Met 4 0 0 0 yX10_holds cX10_holds 4 (some FieldType.int) (fun ad _ _ => [.ref (ad 0), .int (hv_I x1), .int (hv_I x2)]) mem (f_X10_holds x1 x2 mem) := by
  refine hv_start (by decide +kernel) (fun _ _ _ => Nat.le_of_ble_eq_true rfl) ?_
  intro X hc
  have hc : hv_C X cX10_holds 4 RX10 (some FieldType.int) 4 0 0 := hc
  show hv_R X 4 0 0 (hv_QX X 0 0 0) (f_X10_holds x1 x2 mem) mem [] [(0, .ref (hv_ad X 0)), (1, .int (hv_I x1)), (2, .int (hv_I x2))] [] 0
  unfold f_X10_holds
  refine hv_aload_n hc dX10_holds_0 rfl (hv_m 0 rfl) ?_
  refine hv_iload_n hc dX10_holds_1 rfl (hv_m 1 rfl) ?_
  refine hv_iload_n hc dX10_holds_2 rfl (hv_m 2 rfl) ?_
  refine hv_callVi hc (c_X10_treeAt x1 x2 mem) yv_X10_treeAt tw_874 sh_o_0 rfl rfl rfl rfl (Nat.le_of_ble_eq_true rfl) (Nat.le_of_ble_eq_true rfl) (Nat.zero_le _) (Nat.zero_le _) dX10_holds_3 (fun r1 m2 => ?_)
  refine hv_istore_n (lv' := [(3, .int (hv_I r1)), (0, .ref (hv_ad X 0)), (1, .int (hv_I x1)), (2, .int (hv_I x2))]) hc dX10_holds_6 rfl (by decide) rfl ?_
  refine hv_iload_n hc dX10_holds_7 rfl (hv_m 0 rfl) ?_
  refine hv_if_ge (tgt := 15) hc dX10_holds_8 (by decide) ?_ ?_
  · refine hv_aload_n hc dX10_holds_15 rfl (hv_m 1 rfl) ?_
    refine hv_callVa hc (c_X10_heaps m2) yv_X10_heaps tw_858 sh_o_0 rfl rfl rfl rfl (Nat.le_of_ble_eq_true rfl) (Nat.le_of_ble_eq_true rfl) (Nat.zero_le _) (Nat.zero_le _) dX10_holds_16 (fun r3 m4 => ?_)
    refine hv_isR (p := 26) (q := 42) (fun b5 hb5 => ?_)
    refine hv_callVa hc (c_X2_cells b5 hb5 m4) yv_X2_cells tw_882 (sh_X2 hb5) rfl rfl rfl rfl (Nat.le_of_ble_eq_true rfl) (Nat.le_of_ble_eq_true rfl) (Nat.zero_le _) (Nat.zero_le _) dX10_holds_19 (fun r6 m7 => ?_)
    refine hv_isR (p := 27) (q := 43) (fun b8 hb8 => ?_)
    refine hv_iload_n hc dX10_holds_22 rfl (hv_m 0 rfl) ?_
    refine hv_callVi hc (c_X1_holdsOf b8 hb8 r1 m7) yv_X1_holdsOf tw_891 (sh_X1 hb8) rfl rfl rfl rfl (Nat.le_of_ble_eq_true rfl) (Nat.le_of_ble_eq_true rfl) (Nat.zero_le _) (Nat.zero_le _) dX10_holds_23 (fun r9 m10 => ?_)
    exact hv_iret hc dX10_holds_26
  · refine hv_iload_n hc dX10_holds_11 rfl (hv_m 0 rfl) ?_
    refine hv_goto (tgt := 26) hc dX10_holds_12 (by decide) ?_
    exact hv_iret hc dX10_holds_26
def f_X10_singles (x1 x2 : Int) (mem : hMem) : hRs := hv_b (f_X10_treeAt x1 x2 mem) (fun r1 m2 => hv_lt r1 0 (hv_ret r1 m2) (hv_b (f_X10_heaps m2) (fun r3 m4 => hv_is 26 42 r3 (fun b5 => hv_b (f_X2_cells b5 m4) (fun r6 m7 => hv_is 27 43 r6 (fun b8 => hv_b (f_X10_heaps m7) (fun r9 m10 => hv_is 26 42 r9 (fun b11 => hv_b (f_X2_cells b11 m10) (fun r12 m13 => hv_is 27 43 r12 (fun b14 => hv_b (f_X1_singlesOf b14 r1 m13) (fun r15 m16 => hv_b (f_X1_lengthOf b8 r15 m16) (fun r17 m18 => hv_ret r17 m18))))))))))))
set_option maxRecDepth 100000 in
set_option maxHeartbeats 4000000 in
theorem c_X10_singles (x1 x2 : Int) (mem : hMem) : hv_Met 4 0 0 0 yX10_singles cX10_singles 4 (some FieldType.int) (fun ad _ _ => [.ref (ad 0), .int (hv_I x1), .int (hv_I x2)]) mem (f_X10_singles x1 x2 mem) := by
  refine hv_start (by decide +kernel) (fun _ _ _ => Nat.le_of_ble_eq_true rfl) ?_
  intro X hc
  have hc : hv_C X cX10_singles 4 RX10 (some FieldType.int) 4 0 0 := hc
  show hv_R X 4 0 0 (hv_QX X 0 0 0) (f_X10_singles x1 x2 mem) mem [] [(0, .ref (hv_ad X 0)), (1, .int (hv_I x1)), (2, .int (hv_I x2))] [] 0
  unfold f_X10_singles
  refine hv_aload_n hc dX10_singles_0 rfl (hv_m 0 rfl) ?_
  refine hv_iload_n hc dX10_singles_1 rfl (hv_m 1 rfl) ?_
  refine hv_iload_n hc dX10_singles_2 rfl (hv_m 2 rfl) ?_
  refine hv_callVi hc (c_X10_treeAt x1 x2 mem) yv_X10_treeAt tw_874 sh_o_0 rfl rfl rfl rfl (Nat.le_of_ble_eq_true rfl) (Nat.le_of_ble_eq_true rfl) (Nat.zero_le _) (Nat.zero_le _) dX10_singles_3 (fun r1 m2 => ?_)
  refine hv_istore_n (lv' := [(3, .int (hv_I r1)), (0, .ref (hv_ad X 0)), (1, .int (hv_I x1)), (2, .int (hv_I x2))]) hc dX10_singles_6 rfl (by decide) rfl ?_
  refine hv_iload_n hc dX10_singles_7 rfl (hv_m 0 rfl) ?_
  refine hv_if_ge (tgt := 15) hc dX10_singles_8 (by decide) ?_ ?_
  · refine hv_aload_n hc dX10_singles_15 rfl (hv_m 1 rfl) ?_
    refine hv_callVa hc (c_X10_heaps m2) yv_X10_heaps tw_858 sh_o_0 rfl rfl rfl rfl (Nat.le_of_ble_eq_true rfl) (Nat.le_of_ble_eq_true rfl) (Nat.zero_le _) (Nat.zero_le _) dX10_singles_16 (fun r3 m4 => ?_)
    refine hv_isR (p := 26) (q := 42) (fun b5 hb5 => ?_)
    refine hv_callVa hc (c_X2_cells b5 hb5 m4) yv_X2_cells tw_882 (sh_X2 hb5) rfl rfl rfl rfl (Nat.le_of_ble_eq_true rfl) (Nat.le_of_ble_eq_true rfl) (Nat.zero_le _) (Nat.zero_le _) dX10_singles_19 (fun r6 m7 => ?_)
    refine hv_isR (p := 27) (q := 43) (fun b8 hb8 => ?_)
    refine hv_aload_n hc dX10_singles_22 rfl (hv_m 1 rfl) ?_
    refine hv_callVa hc (c_X10_heaps m7) yv_X10_heaps tw_858 sh_o_0 rfl rfl rfl rfl (Nat.le_of_ble_eq_true rfl) (Nat.le_of_ble_eq_true rfl) (Nat.zero_le _) (Nat.zero_le _) dX10_singles_23 (fun r9 m10 => ?_)
    refine hv_isR (p := 26) (q := 42) (fun b11 hb11 => ?_)
    refine hv_callVa hc (c_X2_cells b11 hb11 m10) yv_X2_cells tw_882 (sh_X2 hb11) rfl rfl rfl rfl (Nat.le_of_ble_eq_true rfl) (Nat.le_of_ble_eq_true rfl) (Nat.zero_le _) (Nat.zero_le _) dX10_singles_26 (fun r12 m13 => ?_)
    refine hv_isR (p := 27) (q := 43) (fun b14 hb14 => ?_)
    refine hv_iload_n hc dX10_singles_29 rfl (hv_m 0 rfl) ?_
    refine hv_callVi hc (c_X1_singlesOf b14 hb14 r1 m13) yv_X1_singlesOf tw_896 (sh_X1 hb14) rfl rfl rfl rfl (Nat.le_of_ble_eq_true rfl) (Nat.le_of_ble_eq_true rfl) (Nat.zero_le _) (Nat.zero_le _) dX10_singles_30 (fun r15 m16 => ?_)
    refine hv_callVi hc (c_X1_lengthOf b8 hb8 r15 m16) yv_X1_lengthOf tw_897 (sh_X1 hb8) rfl rfl rfl rfl (Nat.le_of_ble_eq_true rfl) (Nat.le_of_ble_eq_true rfl) (Nat.zero_le _) (Nat.zero_le _) dX10_singles_33 (fun r17 m18 => ?_)
    exact hv_iret hc dX10_singles_36
  · refine hv_iload_n hc dX10_singles_11 rfl (hv_m 0 rfl) ?_
    refine hv_goto (tgt := 36) hc dX10_singles_12 (by decide) ?_
    exact hv_iret hc dX10_singles_36
def f_X10_head (x1 x2 : Int) (mem : hMem) : hRs := hv_b (f_X10_treeAt x1 x2 mem) (fun r1 m2 => hv_lt r1 0 (hv_ret r1 m2) (hv_b (f_X10_heaps m2) (fun r3 m4 => hv_is 26 42 r3 (fun b5 => hv_b (f_X2_cells b5 m4) (fun r6 m7 => hv_is 27 43 r6 (fun b8 => hv_b (f_X1_turnOf b8 r1 m7) (fun r9 m10 => hv_b (f_X3_jobOfTurn r9 m10) (fun r11 m12 => hv_ret r11 m12))))))))
set_option maxRecDepth 100000 in
set_option maxHeartbeats 4000000 in
theorem c_X10_head (x1 x2 : Int) (mem : hMem) : hv_Met 4 0 0 0 yX10_head cX10_head 4 (some FieldType.int) (fun ad _ _ => [.ref (ad 0), .int (hv_I x1), .int (hv_I x2)]) mem (f_X10_head x1 x2 mem) := by
  refine hv_start (by decide +kernel) (fun _ _ _ => Nat.le_of_ble_eq_true rfl) ?_
  intro X hc
  have hc : hv_C X cX10_head 4 RX10 (some FieldType.int) 4 0 0 := hc
  show hv_R X 4 0 0 (hv_QX X 0 0 0) (f_X10_head x1 x2 mem) mem [] [(0, .ref (hv_ad X 0)), (1, .int (hv_I x1)), (2, .int (hv_I x2))] [] 0
  unfold f_X10_head
  refine hv_aload_n hc dX10_head_0 rfl (hv_m 0 rfl) ?_
  refine hv_iload_n hc dX10_head_1 rfl (hv_m 1 rfl) ?_
  refine hv_iload_n hc dX10_head_2 rfl (hv_m 2 rfl) ?_
  refine hv_callVi hc (c_X10_treeAt x1 x2 mem) yv_X10_treeAt tw_874 sh_o_0 rfl rfl rfl rfl (Nat.le_of_ble_eq_true rfl) (Nat.le_of_ble_eq_true rfl) (Nat.zero_le _) (Nat.zero_le _) dX10_head_3 (fun r1 m2 => ?_)
  refine hv_istore_n (lv' := [(3, .int (hv_I r1)), (0, .ref (hv_ad X 0)), (1, .int (hv_I x1)), (2, .int (hv_I x2))]) hc dX10_head_6 rfl (by decide) rfl ?_
  refine hv_iload_n hc dX10_head_7 rfl (hv_m 0 rfl) ?_
  refine hv_if_ge (tgt := 15) hc dX10_head_8 (by decide) ?_ ?_
  · refine hv_aload_n hc dX10_head_15 rfl (hv_m 1 rfl) ?_
    refine hv_callVa hc (c_X10_heaps m2) yv_X10_heaps tw_858 sh_o_0 rfl rfl rfl rfl (Nat.le_of_ble_eq_true rfl) (Nat.le_of_ble_eq_true rfl) (Nat.zero_le _) (Nat.zero_le _) dX10_head_16 (fun r3 m4 => ?_)
    refine hv_isR (p := 26) (q := 42) (fun b5 hb5 => ?_)
    refine hv_callVa hc (c_X2_cells b5 hb5 m4) yv_X2_cells tw_882 (sh_X2 hb5) rfl rfl rfl rfl (Nat.le_of_ble_eq_true rfl) (Nat.le_of_ble_eq_true rfl) (Nat.zero_le _) (Nat.zero_le _) dX10_head_19 (fun r6 m7 => ?_)
    refine hv_isR (p := 27) (q := 43) (fun b8 hb8 => ?_)
    refine hv_iload_n hc dX10_head_22 rfl (hv_m 0 rfl) ?_
    refine hv_callVi hc (c_X1_turnOf b8 hb8 r1 m7) yv_X1_turnOf tw_902 (sh_X1 hb8) rfl rfl rfl rfl (Nat.le_of_ble_eq_true rfl) (Nat.le_of_ble_eq_true rfl) (Nat.zero_le _) (Nat.zero_le _) dX10_head_23 (fun r9 m10 => ?_)
    refine hv_callSi hc (c_X3_jobOfTurn r9 m10) ys_X3_jobOfTurn tw_903 rfl rfl rfl (Nat.le_of_ble_eq_true rfl) (Nat.le_of_ble_eq_true rfl) (Nat.zero_le _) (Nat.zero_le _) dX10_head_26 (fun r11 m12 => ?_)
    exact hv_iret hc dX10_head_29
  · refine hv_iload_n hc dX10_head_11 rfl (hv_m 0 rfl) ?_
    refine hv_goto (tgt := 29) hc dX10_head_12 (by decide) ?_
    exact hv_iret hc dX10_head_29
def f_X10_depth (x1 : Int) (mem : hMem) : hRs := hv_b (f_X10_has x1 mem) (fun r1 m2 => hv_eq r1 0 (hv_ret ((-2)) m2) (hv_b (f_X10_heaps m2) (fun r3 m4 => hv_is 26 42 r3 (fun b5 => hv_b (f_X2_cells b5 m4) (fun r6 m7 => hv_is 27 43 r6 (fun b8 => hv_b (f_X10_heaps m7) (fun r9 m10 => hv_is 26 42 r9 (fun b11 => hv_b (f_X2_heapOf b11 x1 m10) (fun r12 m13 => hv_b (f_X1_deepOf b8 r12 m13) (fun r14 m15 => hv_ret r14 m15))))))))))
set_option maxRecDepth 100000 in
set_option maxHeartbeats 4000000 in
theorem c_X10_depth (x1 : Int) (mem : hMem) : hv_Met 2 0 0 0 yX10_depth cX10_depth 2 (some FieldType.int) (fun ad _ _ => [.ref (ad 0), .int (hv_I x1)]) mem (f_X10_depth x1 mem) := by
  refine hv_start (by decide +kernel) (fun _ _ _ => Nat.le_of_ble_eq_true rfl) ?_
  intro X hc
  have hc : hv_C X cX10_depth 2 RX10 (some FieldType.int) 2 0 0 := hc
  show hv_R X 2 0 0 (hv_QX X 0 0 0) (f_X10_depth x1 mem) mem [] [(0, .ref (hv_ad X 0)), (1, .int (hv_I x1))] [] 0
  unfold f_X10_depth
  refine hv_aload_n hc dX10_depth_0 rfl (hv_m 0 rfl) ?_
  refine hv_iload_n hc dX10_depth_1 rfl (hv_m 1 rfl) ?_
  refine hv_callVi hc (c_X10_has x1 mem) yv_X10_has tw_803 sh_o_0 rfl rfl rfl rfl (Nat.le_of_ble_eq_true rfl) (Nat.le_of_ble_eq_true rfl) (Nat.zero_le _) (Nat.zero_le _) dX10_depth_2 (fun r1 m2 => ?_)
  refine hv_if_eq (tgt := 29) hc dX10_depth_5 (by decide) ?_ ?_
  · refine hv_bipush hc dX10_depth_29 (by decide) ?_
    exact hv_iret hc dX10_depth_31
  · refine hv_aload_n hc dX10_depth_8 rfl (hv_m 0 rfl) ?_
    refine hv_callVa hc (c_X10_heaps m2) yv_X10_heaps tw_858 sh_o_0 rfl rfl rfl rfl (Nat.le_of_ble_eq_true rfl) (Nat.le_of_ble_eq_true rfl) (Nat.zero_le _) (Nat.zero_le _) dX10_depth_9 (fun r3 m4 => ?_)
    refine hv_isR (p := 26) (q := 42) (fun b5 hb5 => ?_)
    refine hv_callVa hc (c_X2_cells b5 hb5 m4) yv_X2_cells tw_882 (sh_X2 hb5) rfl rfl rfl rfl (Nat.le_of_ble_eq_true rfl) (Nat.le_of_ble_eq_true rfl) (Nat.zero_le _) (Nat.zero_le _) dX10_depth_12 (fun r6 m7 => ?_)
    refine hv_isR (p := 27) (q := 43) (fun b8 hb8 => ?_)
    refine hv_aload_n hc dX10_depth_15 rfl (hv_m 0 rfl) ?_
    refine hv_callVa hc (c_X10_heaps m7) yv_X10_heaps tw_858 sh_o_0 rfl rfl rfl rfl (Nat.le_of_ble_eq_true rfl) (Nat.le_of_ble_eq_true rfl) (Nat.zero_le _) (Nat.zero_le _) dX10_depth_16 (fun r9 m10 => ?_)
    refine hv_isR (p := 26) (q := 42) (fun b11 hb11 => ?_)
    refine hv_iload_n hc dX10_depth_19 rfl (hv_m 1 rfl) ?_
    refine hv_callVi hc (c_X2_heapOf b11 hb11 x1 m10) yv_X2_heapOf tw_908 (sh_X2 hb11) rfl rfl rfl rfl (Nat.le_of_ble_eq_true rfl) (Nat.le_of_ble_eq_true rfl) (Nat.zero_le _) (Nat.zero_le _) dX10_depth_20 (fun r12 m13 => ?_)
    refine hv_callVi hc (c_X1_deepOf b8 hb8 r12 m13) yv_X1_deepOf tw_909 (sh_X1 hb8) rfl rfl rfl rfl (Nat.le_of_ble_eq_true rfl) (Nat.le_of_ble_eq_true rfl) (Nat.zero_le _) (Nat.zero_le _) dX10_depth_23 (fun r14 m15 => ?_)
    refine hv_goto (tgt := 31) hc dX10_depth_26 (by decide) ?_
    exact hv_iret hc dX10_depth_31
def f_X10_walkOver (x1 : Int) (mem : hMem) : hRs := hv_b (f_X10_heaps mem) (fun r1 m2 => hv_is 26 42 r1 (fun b3 => hv_b (f_X2_cells b3 m2) (fun r4 m5 => hv_is 27 43 r4 (fun b6 => hv_b (f_X10_heaps m5) (fun r7 m8 => hv_is 26 42 r7 (fun b9 => hv_b (f_X2_heapOf b9 x1 m8) (fun r10 m11 => hv_b (f_X9_over b6 r10 m11) (fun r12 m13 => hv_b (f_X9_met m13) (fun r14 m15 => hv_ret r14 m15)))))))))
set_option maxRecDepth 100000 in
set_option maxHeartbeats 4000000 in
theorem c_X10_walkOver (x1 : Int) (mem : hMem) : hv_Met 4 0 0 0 yX10_walkOver cX10_walkOver 2 (some FieldType.int) (fun ad _ _ => [.ref (ad 0), .int (hv_I x1)]) mem (f_X10_walkOver x1 mem) := by
  refine hv_start (by decide +kernel) (fun _ _ _ => Nat.le_of_ble_eq_true rfl) ?_
  intro X hc
  have hc : hv_C X cX10_walkOver 2 RX10 (some FieldType.int) 4 0 0 := hc
  show hv_R X 2 0 0 (hv_QX X 0 0 0) (f_X10_walkOver x1 mem) mem [] [(0, .ref (hv_ad X 0)), (1, .int (hv_I x1))] [] 0
  unfold f_X10_walkOver
  refine hv_aload_n hc dX10_walkOver_0 rfl (hv_m 0 rfl) ?_
  refine hv_getR hc fl_X10_64 sh_o_0 rfl dX10_walkOver_1 ?_
  refine hv_aload_n hc dX10_walkOver_4 rfl (hv_m 0 rfl) ?_
  refine hv_callVa hc (c_X10_heaps mem) yv_X10_heaps tw_858 sh_o_0 rfl rfl rfl rfl (Nat.le_of_ble_eq_true rfl) (Nat.le_of_ble_eq_true rfl) (Nat.zero_le _) (Nat.zero_le _) dX10_walkOver_5 (fun r1 m2 => ?_)
  refine hv_isR (p := 26) (q := 42) (fun b3 hb3 => ?_)
  refine hv_callVa hc (c_X2_cells b3 hb3 m2) yv_X2_cells tw_882 (sh_X2 hb3) rfl rfl rfl rfl (Nat.le_of_ble_eq_true rfl) (Nat.le_of_ble_eq_true rfl) (Nat.zero_le _) (Nat.zero_le _) dX10_walkOver_8 (fun r4 m5 => ?_)
  refine hv_isR (p := 27) (q := 43) (fun b6 hb6 => ?_)
  refine hv_aload_n hc dX10_walkOver_11 rfl (hv_m 0 rfl) ?_
  refine hv_callVa hc (c_X10_heaps m5) yv_X10_heaps tw_858 sh_o_0 rfl rfl rfl rfl (Nat.le_of_ble_eq_true rfl) (Nat.le_of_ble_eq_true rfl) (Nat.zero_le _) (Nat.zero_le _) dX10_walkOver_12 (fun r7 m8 => ?_)
  refine hv_isR (p := 26) (q := 42) (fun b9 hb9 => ?_)
  refine hv_iload_n hc dX10_walkOver_15 rfl (hv_m 1 rfl) ?_
  refine hv_callVi hc (c_X2_heapOf b9 hb9 x1 m8) yv_X2_heapOf tw_908 (sh_X2 hb9) rfl rfl rfl rfl (Nat.le_of_ble_eq_true rfl) (Nat.le_of_ble_eq_true rfl) (Nat.zero_le _) (Nat.zero_le _) dX10_walkOver_16 (fun r10 m11 => ?_)
  refine hv_callVv hc (c_X9_over b6 hb6 r10 m11) yv_X9_over tw_922 sh_o_58 rfl rfl rfl rfl (Nat.le_of_ble_eq_true rfl) (Nat.le_of_ble_eq_true rfl) (Nat.zero_le _) (Nat.zero_le _) dX10_walkOver_19 (fun r12 m13 => ?_)
  refine hv_aload_n hc dX10_walkOver_22 rfl (hv_m 0 rfl) ?_
  refine hv_getR hc fl_X10_64 sh_o_0 rfl dX10_walkOver_23 ?_
  refine hv_callVi hc (c_X9_met m13) yv_X9_met tw_941 sh_o_58 rfl rfl rfl rfl (Nat.le_of_ble_eq_true rfl) (Nat.le_of_ble_eq_true rfl) (Nat.zero_le _) (Nat.zero_le _) dX10_walkOver_26 (fun r14 m15 => ?_)
  exact hv_iret hc dX10_walkOver_29
def f_X10_parts (x1 : Int) (mem : hMem) : hRs := hv_b (f_X10_has x1 mem) (fun r1 m2 => hv_eq r1 0 (hv_ret ((-2)) m2) (hv_b (f_X9_begin m2) (fun r3 m4 => hv_b (f_X10_walkOver x1 m4) (fun r5 m6 => hv_ret r5 m6))))
set_option maxRecDepth 100000 in
set_option maxHeartbeats 4000000 in
theorem c_X10_parts (x1 : Int) (mem : hMem) : hv_Met 5 0 0 0 yX10_parts cX10_parts 2 (some FieldType.int) (fun ad _ _ => [.ref (ad 0), .int (hv_I x1)]) mem (f_X10_parts x1 mem) := by
  refine hv_start (by decide +kernel) (fun _ _ _ => Nat.le_of_ble_eq_true rfl) ?_
  intro X hc
  have hc : hv_C X cX10_parts 2 RX10 (some FieldType.int) 5 0 0 := hc
  show hv_R X 2 0 0 (hv_QX X 0 0 0) (f_X10_parts x1 mem) mem [] [(0, .ref (hv_ad X 0)), (1, .int (hv_I x1))] [] 0
  unfold f_X10_parts
  refine hv_aload_n hc dX10_parts_0 rfl (hv_m 0 rfl) ?_
  refine hv_iload_n hc dX10_parts_1 rfl (hv_m 1 rfl) ?_
  refine hv_callVi hc (c_X10_has x1 mem) yv_X10_has tw_803 sh_o_0 rfl rfl rfl rfl (Nat.le_of_ble_eq_true rfl) (Nat.le_of_ble_eq_true rfl) (Nat.zero_le _) (Nat.zero_le _) dX10_parts_2 (fun r1 m2 => ?_)
  refine hv_if_ne (tgt := 11) hc dX10_parts_5 (by decide) ?_ ?_
  · refine hv_aload_n hc dX10_parts_11 rfl (hv_m 0 rfl) ?_
    refine hv_getR hc fl_X10_64 sh_o_0 rfl dX10_parts_12 ?_
    refine hv_callVv hc (c_X9_begin m2) yv_X9_begin tw_914 sh_o_58 rfl rfl rfl rfl (Nat.le_of_ble_eq_true rfl) (Nat.le_of_ble_eq_true rfl) (Nat.zero_le _) (Nat.zero_le _) dX10_parts_15 (fun r3 m4 => ?_)
    refine hv_aload_n hc dX10_parts_18 rfl (hv_m 0 rfl) ?_
    refine hv_iload_n hc dX10_parts_19 rfl (hv_m 1 rfl) ?_
    refine hv_callVi hc (c_X10_walkOver x1 m4) yv_X10_walkOver tw_918 sh_o_0 rfl rfl rfl rfl (Nat.le_of_ble_eq_true rfl) (Nat.le_of_ble_eq_true rfl) (Nat.zero_le _) (Nat.zero_le _) dX10_parts_20 (fun r5 m6 => ?_)
    exact hv_iret hc dX10_parts_23
  · refine hv_bipush hc dX10_parts_8 (by decide) ?_
    exact hv_iret hc dX10_parts_10
def f_X10_own (x1 : Int) (mem : hMem) : hRs := hv_b (f_X10_has x1 mem) (fun r1 m2 => hv_eq r1 0 (hv_ret ((-2)) m2) (hv_b (f_X9_begin m2) (fun r3 m4 => hv_b (f_X6_firstOf x1 m4) (fun r5 m6 => hv_b (f_X10_walkOver r5 m6) (fun r7 m8 => hv_b (f_X6_secondOf x1 m8) (fun r9 m10 => hv_b (f_X10_walkOver r9 m10) (fun r11 m12 => hv_b (f_X10_walkOver x1 m12) (fun r13 m14 => hv_ret (r13 - r11) m14))))))))
set_option maxRecDepth 100000 in
set_option maxHeartbeats 4000000 in
theorem c_X10_own (x1 : Int) (mem : hMem) : hv_Met 5 0 0 0 yX10_own cX10_own 3 (some FieldType.int) (fun ad _ _ => [.ref (ad 0), .int (hv_I x1)]) mem (f_X10_own x1 mem) := by
  refine hv_start (by decide +kernel) (fun _ _ _ => Nat.le_of_ble_eq_true rfl) ?_
  intro X hc
  have hc : hv_C X cX10_own 3 RX10 (some FieldType.int) 5 0 0 := hc
  show hv_R X 3 0 0 (hv_QX X 0 0 0) (f_X10_own x1 mem) mem [] [(0, .ref (hv_ad X 0)), (1, .int (hv_I x1))] [] 0
  unfold f_X10_own
  refine hv_aload_n hc dX10_own_0 rfl (hv_m 0 rfl) ?_
  refine hv_iload_n hc dX10_own_1 rfl (hv_m 1 rfl) ?_
  refine hv_callVi hc (c_X10_has x1 mem) yv_X10_has tw_803 sh_o_0 rfl rfl rfl rfl (Nat.le_of_ble_eq_true rfl) (Nat.le_of_ble_eq_true rfl) (Nat.zero_le _) (Nat.zero_le _) dX10_own_2 (fun r1 m2 => ?_)
  refine hv_if_ne (tgt := 11) hc dX10_own_5 (by decide) ?_ ?_
  · refine hv_aload_n hc dX10_own_11 rfl (hv_m 0 rfl) ?_
    refine hv_getR hc fl_X10_64 sh_o_0 rfl dX10_own_12 ?_
    refine hv_callVv hc (c_X9_begin m2) yv_X9_begin tw_914 sh_o_58 rfl rfl rfl rfl (Nat.le_of_ble_eq_true rfl) (Nat.le_of_ble_eq_true rfl) (Nat.zero_le _) (Nat.zero_le _) dX10_own_15 (fun r3 m4 => ?_)
    refine hv_aload_n hc dX10_own_18 rfl (hv_m 0 rfl) ?_
    refine hv_aload_n hc dX10_own_19 rfl (hv_m 0 rfl) ?_
    refine hv_getR hc fl_X10_35 sh_o_0 rfl dX10_own_20 ?_
    refine hv_iload_n hc dX10_own_23 rfl (hv_m 1 rfl) ?_
    refine hv_callVi hc (c_X6_firstOf x1 m4) yv_X6_firstOf tw_808 sh_o_14 rfl rfl rfl rfl (Nat.le_of_ble_eq_true rfl) (Nat.le_of_ble_eq_true rfl) (Nat.zero_le _) (Nat.zero_le _) dX10_own_24 (fun r5 m6 => ?_)
    refine hv_callVi hc (c_X10_walkOver r5 m6) yv_X10_walkOver tw_918 sh_o_0 rfl rfl rfl rfl (Nat.le_of_ble_eq_true rfl) (Nat.le_of_ble_eq_true rfl) (Nat.zero_le _) (Nat.zero_le _) dX10_own_27 (fun r7 m8 => ?_)
    refine hv_pop hc dX10_own_30 rfl ?_
    refine hv_aload_n hc dX10_own_31 rfl (hv_m 0 rfl) ?_
    refine hv_aload_n hc dX10_own_32 rfl (hv_m 0 rfl) ?_
    refine hv_getR hc fl_X10_35 sh_o_0 rfl dX10_own_33 ?_
    refine hv_iload_n hc dX10_own_36 rfl (hv_m 1 rfl) ?_
    refine hv_callVi hc (c_X6_secondOf x1 m8) yv_X6_secondOf tw_812 sh_o_14 rfl rfl rfl rfl (Nat.le_of_ble_eq_true rfl) (Nat.le_of_ble_eq_true rfl) (Nat.zero_le _) (Nat.zero_le _) dX10_own_37 (fun r9 m10 => ?_)
    refine hv_callVi hc (c_X10_walkOver r9 m10) yv_X10_walkOver tw_918 sh_o_0 rfl rfl rfl rfl (Nat.le_of_ble_eq_true rfl) (Nat.le_of_ble_eq_true rfl) (Nat.zero_le _) (Nat.zero_le _) dX10_own_40 (fun r11 m12 => ?_)
    refine hv_istore_n (lv' := [(2, .int (hv_I r11)), (0, .ref (hv_ad X 0)), (1, .int (hv_I x1))]) hc dX10_own_43 rfl (by decide) rfl ?_
    refine hv_aload_n hc dX10_own_44 rfl (hv_m 1 rfl) ?_
    refine hv_iload_n hc dX10_own_45 rfl (hv_m 2 rfl) ?_
    refine hv_callVi hc (c_X10_walkOver x1 m12) yv_X10_walkOver tw_918 sh_o_0 rfl rfl rfl rfl (Nat.le_of_ble_eq_true rfl) (Nat.le_of_ble_eq_true rfl) (Nat.zero_le _) (Nat.zero_le _) dX10_own_46 (fun r13 m14 => ?_)
    refine hv_iload_n hc dX10_own_49 rfl (hv_m 0 rfl) ?_
    refine hv_isub hc dX10_own_50 ?_
    exact hv_iret hc dX10_own_51
  · refine hv_bipush hc dX10_own_8 (by decide) ?_
    exact hv_iret hc dX10_own_10
def f_X10_shared (x1 x2 : Int) (mem : hMem) : hRs := hv_b (f_X10_has x1 mem) (fun r1 m2 => hv_eq r1 0 (hv_ret ((-2)) m2) (hv_b (f_X10_has x2 m2) (fun r3 m4 => hv_eq r3 0 (hv_ret ((-2)) m4) (hv_b (f_X9_begin m4) (fun r5 m6 => hv_b (f_X10_walkOver x1 m6) (fun r7 m8 => hv_b (f_X9_begin m8) (fun r9 m10 => hv_b (f_X10_walkOver x2 m10) (fun r11 m12 => hv_b (f_X10_walkOver x1 m12) (fun r13 m14 => hv_ret ((r7 + r11) - r13) m14)))))))))
set_option maxRecDepth 100000 in
set_option maxHeartbeats 4000000 in
theorem c_X10_shared (x1 x2 : Int) (mem : hMem) : hv_Met 5 0 0 0 yX10_shared cX10_shared 6 (some FieldType.int) (fun ad _ _ => [.ref (ad 0), .int (hv_I x1), .int (hv_I x2)]) mem (f_X10_shared x1 x2 mem) := by
  refine hv_start (by decide +kernel) (fun _ _ _ => Nat.le_of_ble_eq_true rfl) ?_
  intro X hc
  have hc : hv_C X cX10_shared 6 RX10 (some FieldType.int) 5 0 0 := hc
  show hv_R X 6 0 0 (hv_QX X 0 0 0) (f_X10_shared x1 x2 mem) mem [] [(0, .ref (hv_ad X 0)), (1, .int (hv_I x1)), (2, .int (hv_I x2))] [] 0
  unfold f_X10_shared
  refine hv_aload_n hc dX10_shared_0 rfl (hv_m 0 rfl) ?_
  refine hv_iload_n hc dX10_shared_1 rfl (hv_m 1 rfl) ?_
  refine hv_callVi hc (c_X10_has x1 mem) yv_X10_has tw_803 sh_o_0 rfl rfl rfl rfl (Nat.le_of_ble_eq_true rfl) (Nat.le_of_ble_eq_true rfl) (Nat.zero_le _) (Nat.zero_le _) dX10_shared_2 (fun r1 m2 => ?_)
  refine hv_if_eq (tgt := 16) hc dX10_shared_5 (by decide) ?_ ?_
  · refine hv_bipush hc dX10_shared_16 (by decide) ?_
    exact hv_iret hc dX10_shared_18
  · refine hv_aload_n hc dX10_shared_8 rfl (hv_m 0 rfl) ?_
    refine hv_iload_n hc dX10_shared_9 rfl (hv_m 2 rfl) ?_
    refine hv_callVi hc (c_X10_has x2 m2) yv_X10_has tw_803 sh_o_0 rfl rfl rfl rfl (Nat.le_of_ble_eq_true rfl) (Nat.le_of_ble_eq_true rfl) (Nat.zero_le _) (Nat.zero_le _) dX10_shared_10 (fun r3 m4 => ?_)
    refine hv_if_ne (tgt := 19) hc dX10_shared_13 (by decide) ?_ ?_
    · refine hv_aload_n hc dX10_shared_19 rfl (hv_m 0 rfl) ?_
      refine hv_getR hc fl_X10_64 sh_o_0 rfl dX10_shared_20 ?_
      refine hv_callVv hc (c_X9_begin m4) yv_X9_begin tw_914 sh_o_58 rfl rfl rfl rfl (Nat.le_of_ble_eq_true rfl) (Nat.le_of_ble_eq_true rfl) (Nat.zero_le _) (Nat.zero_le _) dX10_shared_23 (fun r5 m6 => ?_)
      refine hv_aload_n hc dX10_shared_26 rfl (hv_m 0 rfl) ?_
      refine hv_iload_n hc dX10_shared_27 rfl (hv_m 1 rfl) ?_
      refine hv_callVi hc (c_X10_walkOver x1 m6) yv_X10_walkOver tw_918 sh_o_0 rfl rfl rfl rfl (Nat.le_of_ble_eq_true rfl) (Nat.le_of_ble_eq_true rfl) (Nat.zero_le _) (Nat.zero_le _) dX10_shared_28 (fun r7 m8 => ?_)
      refine hv_istore_n (lv' := [(3, .int (hv_I r7)), (0, .ref (hv_ad X 0)), (1, .int (hv_I x1)), (2, .int (hv_I x2))]) hc dX10_shared_31 rfl (by decide) rfl ?_
      refine hv_aload_n hc dX10_shared_32 rfl (hv_m 1 rfl) ?_
      refine hv_getR hc fl_X10_64 sh_o_0 rfl dX10_shared_33 ?_
      refine hv_callVv hc (c_X9_begin m8) yv_X9_begin tw_914 sh_o_58 rfl rfl rfl rfl (Nat.le_of_ble_eq_true rfl) (Nat.le_of_ble_eq_true rfl) (Nat.zero_le _) (Nat.zero_le _) dX10_shared_36 (fun r9 m10 => ?_)
      refine hv_aload_n hc dX10_shared_39 rfl (hv_m 1 rfl) ?_
      refine hv_iload_n hc dX10_shared_40 rfl (hv_m 3 rfl) ?_
      refine hv_callVi hc (c_X10_walkOver x2 m10) yv_X10_walkOver tw_918 sh_o_0 rfl rfl rfl rfl (Nat.le_of_ble_eq_true rfl) (Nat.le_of_ble_eq_true rfl) (Nat.zero_le _) (Nat.zero_le _) dX10_shared_41 (fun r11 m12 => ?_)
      refine hv_istore (lv' := [(4, .int (hv_I r11)), (3, .int (hv_I r7)), (0, .ref (hv_ad X 0)), (1, .int (hv_I x1)), (2, .int (hv_I x2))]) hc dX10_shared_44 (by decide) rfl ?_
      refine hv_aload_n hc dX10_shared_46 rfl (hv_m 2 rfl) ?_
      refine hv_iload_n hc dX10_shared_47 rfl (hv_m 3 rfl) ?_
      refine hv_callVi hc (c_X10_walkOver x1 m12) yv_X10_walkOver tw_918 sh_o_0 rfl rfl rfl rfl (Nat.le_of_ble_eq_true rfl) (Nat.le_of_ble_eq_true rfl) (Nat.zero_le _) (Nat.zero_le _) dX10_shared_48 (fun r13 m14 => ?_)
      refine hv_istore (lv' := [(5, .int (hv_I r13)), (4, .int (hv_I r11)), (3, .int (hv_I r7)), (0, .ref (hv_ad X 0)), (1, .int (hv_I x1)), (2, .int (hv_I x2))]) hc dX10_shared_51 (by decide) rfl ?_
      refine hv_iload_n hc dX10_shared_53 rfl (hv_m 2 rfl) ?_
      refine hv_iload hc dX10_shared_54 (hv_m 1 rfl) ?_
      refine hv_iadd hc dX10_shared_56 ?_
      refine hv_iload hc dX10_shared_57 (hv_m 0 rfl) ?_
      refine hv_isub hc dX10_shared_59 ?_
      exact hv_iret hc dX10_shared_60
    · refine hv_bipush hc dX10_shared_16 (by decide) ?_
      exact hv_iret hc dX10_shared_18
def f_X10_links (x1 : Int) (mem : hMem) : hRs := hv_b (f_X10_has x1 mem) (fun r1 m2 => hv_eq r1 0 (hv_ret ((-2)) m2) (hv_b (f_X10_heaps m2) (fun r3 m4 => hv_is 26 42 r3 (fun b5 => hv_b (f_X2_linksOf b5 x1 m4) (fun r6 m7 => hv_ret r6 m7)))))
set_option maxRecDepth 100000 in
set_option maxHeartbeats 4000000 in
theorem c_X10_links (x1 : Int) (mem : hMem) : hv_Met 2 0 0 0 yX10_links cX10_links 2 (some FieldType.int) (fun ad _ _ => [.ref (ad 0), .int (hv_I x1)]) mem (f_X10_links x1 mem) := by
  refine hv_start (by decide +kernel) (fun _ _ _ => Nat.le_of_ble_eq_true rfl) ?_
  intro X hc
  have hc : hv_C X cX10_links 2 RX10 (some FieldType.int) 2 0 0 := hc
  show hv_R X 2 0 0 (hv_QX X 0 0 0) (f_X10_links x1 mem) mem [] [(0, .ref (hv_ad X 0)), (1, .int (hv_I x1))] [] 0
  unfold f_X10_links
  refine hv_aload_n hc dX10_links_0 rfl (hv_m 0 rfl) ?_
  refine hv_iload_n hc dX10_links_1 rfl (hv_m 1 rfl) ?_
  refine hv_callVi hc (c_X10_has x1 mem) yv_X10_has tw_803 sh_o_0 rfl rfl rfl rfl (Nat.le_of_ble_eq_true rfl) (Nat.le_of_ble_eq_true rfl) (Nat.zero_le _) (Nat.zero_le _) dX10_links_2 (fun r1 m2 => ?_)
  refine hv_if_eq (tgt := 19) hc dX10_links_5 (by decide) ?_ ?_
  · refine hv_bipush hc dX10_links_19 (by decide) ?_
    exact hv_iret hc dX10_links_21
  · refine hv_aload_n hc dX10_links_8 rfl (hv_m 0 rfl) ?_
    refine hv_callVa hc (c_X10_heaps m2) yv_X10_heaps tw_858 sh_o_0 rfl rfl rfl rfl (Nat.le_of_ble_eq_true rfl) (Nat.le_of_ble_eq_true rfl) (Nat.zero_le _) (Nat.zero_le _) dX10_links_9 (fun r3 m4 => ?_)
    refine hv_isR (p := 26) (q := 42) (fun b5 hb5 => ?_)
    refine hv_iload_n hc dX10_links_12 rfl (hv_m 1 rfl) ?_
    refine hv_callVi hc (c_X2_linksOf b5 hb5 x1 m4) yv_X2_linksOf tw_957 (sh_X2 hb5) rfl rfl rfl rfl (Nat.le_of_ble_eq_true rfl) (Nat.le_of_ble_eq_true rfl) (Nat.zero_le _) (Nat.zero_le _) dX10_links_13 (fun r6 m7 => ?_)
    refine hv_goto (tgt := 21) hc dX10_links_16 (by decide) ?_
    exact hv_iret hc dX10_links_21
def f_X10_all (mem : hMem) : hRs := hv_eq (mem 0 12) 0 (hv_ret ((-2)) mem) (hv_b (f_X10_heaps mem) (fun r1 m2 => hv_is 26 42 r1 (fun b3 => hv_b (f_X2_linksOfAll b3 m2) (fun r4 m5 => hv_ret r4 m5))))
set_option maxRecDepth 100000 in
set_option maxHeartbeats 4000000 in
theorem c_X10_all (mem : hMem) : hv_Met 3 0 0 0 yX10_all cX10_all 1 (some FieldType.int) (fun ad _ _ => [.ref (ad 0)]) mem (f_X10_all mem) := by
  refine hv_start (by decide +kernel) (fun _ _ _ => Nat.le_of_ble_eq_true rfl) ?_
  intro X hc
  have hc : hv_C X cX10_all 1 RX10 (some FieldType.int) 3 0 0 := hc
  show hv_R X 1 0 0 (hv_QX X 0 0 0) (f_X10_all mem) mem [] [(0, .ref (hv_ad X 0))] [] 0
  unfold f_X10_all
  refine hv_aload_n hc dX10_all_0 rfl (hv_m 0 rfl) ?_
  refine hv_getI hc fl_X10_110 sh_o_0 rfl dX10_all_1 ?_
  refine hv_if_ne (tgt := 12) hc dX10_all_4 (by decide) ?_ ?_
  · refine hv_aload_n hc dX10_all_12 rfl (hv_m 0 rfl) ?_
    refine hv_callVa hc (c_X10_heaps mem) yv_X10_heaps tw_858 sh_o_0 rfl rfl rfl rfl (Nat.le_of_ble_eq_true rfl) (Nat.le_of_ble_eq_true rfl) (Nat.zero_le _) (Nat.zero_le _) dX10_all_13 (fun r1 m2 => ?_)
    refine hv_isR (p := 26) (q := 42) (fun b3 hb3 => ?_)
    refine hv_callVi hc (c_X2_linksOfAll b3 hb3 m2) yv_X2_linksOfAll tw_965 (sh_X2 hb3) rfl rfl rfl rfl (Nat.le_of_ble_eq_true rfl) (Nat.le_of_ble_eq_true rfl) (Nat.zero_le _) (Nat.zero_le _) dX10_all_16 (fun r4 m5 => ?_)
    exact hv_iret hc dX10_all_19
  · refine hv_bipush hc dX10_all_7 (by decide) ?_
    refine hv_goto (tgt := 19) hc dX10_all_9 (by decide) ?_
    exact hv_iret hc dX10_all_19
def f_X10_by (x1 x2 : Int) (mem : hMem) : hRs := hv_b (f_X10_has x2 mem) (fun r1 m2 => hv_eq r1 0 (hv_ret ((-2)) m2) (hv_lt x1 0 (hv_ret ((-2)) m2) (hv_lt 1 x1 (hv_ret ((-2)) m2) (hv_eq x1 0 (hv_b (f_X2_linksOf 26 x2 m2) (fun r5 m6 => hv_ret r5 m6)) (hv_b (f_X2_linksOf 42 x2 m2) (fun r3 m4 => hv_ret r3 m4))))))
set_option maxRecDepth 100000 in
set_option maxHeartbeats 4000000 in
theorem c_X10_by (x1 x2 : Int) (mem : hMem) : hv_Met 2 0 0 0 yX10_by cX10_by 3 (some FieldType.int) (fun ad _ _ => [.ref (ad 0), .int (hv_I x1), .int (hv_I x2)]) mem (f_X10_by x1 x2 mem) := by
  refine hv_start (by decide +kernel) (fun _ _ _ => Nat.le_of_ble_eq_true rfl) ?_
  intro X hc
  have hc : hv_C X cX10_by 3 RX10 (some FieldType.int) 2 0 0 := hc
  show hv_R X 3 0 0 (hv_QX X 0 0 0) (f_X10_by x1 x2 mem) mem [] [(0, .ref (hv_ad X 0)), (1, .int (hv_I x1)), (2, .int (hv_I x2))] [] 0
  unfold f_X10_by
  refine hv_aload_n hc dX10_by_0 rfl (hv_m 0 rfl) ?_
  refine hv_iload_n hc dX10_by_1 rfl (hv_m 2 rfl) ?_
  refine hv_callVi hc (c_X10_has x2 mem) yv_X10_has tw_803 sh_o_0 rfl rfl rfl rfl (Nat.le_of_ble_eq_true rfl) (Nat.le_of_ble_eq_true rfl) (Nat.zero_le _) (Nat.zero_le _) dX10_by_2 (fun r1 m2 => ?_)
  refine hv_if_eq (tgt := 17) hc dX10_by_5 (by decide) ?_ ?_
  · refine hv_bipush hc dX10_by_17 (by decide) ?_
    exact hv_iret hc dX10_by_19
  · refine hv_iload_n hc dX10_by_8 rfl (hv_m 1 rfl) ?_
    refine hv_if_lt (tgt := 17) hc dX10_by_9 (by decide) ?_ ?_
    · refine hv_bipush hc dX10_by_17 (by decide) ?_
      exact hv_iret hc dX10_by_19
    · refine hv_iload_n hc dX10_by_12 rfl (hv_m 1 rfl) ?_
      refine hv_iconst hc dX10_by_13 ?_
      refine hv_icmp_le (tgt := 20) hc dX10_by_14 (by decide) ?_ ?_
      · refine hv_iload_n hc dX10_by_20 rfl (hv_m 1 rfl) ?_
        refine hv_if_ne (tgt := 35) hc dX10_by_21 (by decide) ?_ ?_
        · refine hv_aload_n hc dX10_by_35 rfl (hv_m 0 rfl) ?_
          refine hv_getR hc fl_X10_58 sh_o_0 rfl dX10_by_36 ?_
          refine hv_iload_n hc dX10_by_39 rfl (hv_m 2 rfl) ?_
          refine hv_callVi hc (c_X2_linksOf 42 (by decide) x2 m2) yv_X2_linksOf tw_957 sh_o_42 rfl rfl rfl rfl (Nat.le_of_ble_eq_true rfl) (Nat.le_of_ble_eq_true rfl) (Nat.zero_le _) (Nat.zero_le _) dX10_by_40 (fun r3 m4 => ?_)
          exact hv_iret hc dX10_by_43
        · refine hv_aload_n hc dX10_by_24 rfl (hv_m 0 rfl) ?_
          refine hv_getR hc fl_X10_54 sh_o_0 rfl dX10_by_25 ?_
          refine hv_iload_n hc dX10_by_28 rfl (hv_m 2 rfl) ?_
          refine hv_callVi hc (c_X2_linksOf 26 (by decide) x2 m2) yv_X2_linksOf tw_957 sh_o_26 rfl rfl rfl rfl (Nat.le_of_ble_eq_true rfl) (Nat.le_of_ble_eq_true rfl) (Nat.zero_le _) (Nat.zero_le _) dX10_by_29 (fun r5 m6 => ?_)
          refine hv_goto (tgt := 43) hc dX10_by_32 (by decide) ?_
          exact hv_iret hc dX10_by_43
      · refine hv_bipush hc dX10_by_17 (by decide) ?_
        exact hv_iret hc dX10_by_19
def f_X10_lean (mem : hMem) : hRs := hv_eq (mem 0 12) 0 (hv_ret ((-2)) mem) (hv_b (f_X2_linksOfAll 42 mem) (fun r1 m2 => hv_b (f_X2_linksOfAll 26 m2) (fun r3 m4 => hv_lt r1 r3 (hv_ret 1 m4) (hv_ret 0 m4))))
set_option maxRecDepth 100000 in
set_option maxHeartbeats 4000000 in
theorem c_X10_lean (mem : hMem) : hv_Met 3 0 0 0 yX10_lean cX10_lean 1 (some FieldType.int) (fun ad _ _ => [.ref (ad 0)]) mem (f_X10_lean mem) := by
  refine hv_start (by decide +kernel) (fun _ _ _ => Nat.le_of_ble_eq_true rfl) ?_
  intro X hc
  have hc : hv_C X cX10_lean 1 RX10 (some FieldType.int) 3 0 0 := hc
  show hv_R X 1 0 0 (hv_QX X 0 0 0) (f_X10_lean mem) mem [] [(0, .ref (hv_ad X 0))] [] 0
  unfold f_X10_lean
  refine hv_aload_n hc dX10_lean_0 rfl (hv_m 0 rfl) ?_
  refine hv_getI hc fl_X10_110 sh_o_0 rfl dX10_lean_1 ?_
  refine hv_if_ne (tgt := 10) hc dX10_lean_4 (by decide) ?_ ?_
  · refine hv_aload_n hc dX10_lean_10 rfl (hv_m 0 rfl) ?_
    refine hv_getR hc fl_X10_58 sh_o_0 rfl dX10_lean_11 ?_
    refine hv_callVi hc (c_X2_linksOfAll 42 (by decide) mem) yv_X2_linksOfAll tw_965 sh_o_42 rfl rfl rfl rfl (Nat.le_of_ble_eq_true rfl) (Nat.le_of_ble_eq_true rfl) (Nat.zero_le _) (Nat.zero_le _) dX10_lean_14 (fun r1 m2 => ?_)
    refine hv_aload_n hc dX10_lean_17 rfl (hv_m 0 rfl) ?_
    refine hv_getR hc fl_X10_54 sh_o_0 rfl dX10_lean_18 ?_
    refine hv_callVi hc (c_X2_linksOfAll 26 (by decide) m2) yv_X2_linksOfAll tw_965 sh_o_26 rfl rfl rfl rfl (Nat.le_of_ble_eq_true rfl) (Nat.le_of_ble_eq_true rfl) (Nat.zero_le _) (Nat.zero_le _) dX10_lean_21 (fun r3 m4 => ?_)
    refine hv_icmp_ge (tgt := 31) hc dX10_lean_24 (by decide) ?_ ?_
    · refine hv_iconst hc dX10_lean_31 ?_
      exact hv_iret hc dX10_lean_32
    · refine hv_iconst hc dX10_lean_27 ?_
      refine hv_goto (tgt := 32) hc dX10_lean_28 (by decide) ?_
      exact hv_iret hc dX10_lean_32
  · refine hv_bipush hc dX10_lean_7 (by decide) ?_
    exact hv_iret hc dX10_lean_9
def f_X10_drain (x1 : Int) (mem : hMem) : hRs := hv_b (f_X10_has x1 mem) (fun r1 m2 => hv_eq r1 0 (hv_ret ((-2)) m2) (hv_b (f_X10_heaps m2) (fun r3 m4 => hv_is 26 42 r3 (fun b5 => hv_b (f_X2_linksToEmpty b5 x1 m4) (fun r6 m7 => hv_ret r6 m7)))))
set_option maxRecDepth 100000 in
set_option maxHeartbeats 4000000 in
theorem c_X10_drain (x1 : Int) (mem : hMem) : hv_Met 6 0 0 0 yX10_drain cX10_drain 2 (some FieldType.int) (fun ad _ _ => [.ref (ad 0), .int (hv_I x1)]) mem (f_X10_drain x1 mem) := by
  refine hv_start (by decide +kernel) (fun _ _ _ => Nat.le_of_ble_eq_true rfl) ?_
  intro X hc
  have hc : hv_C X cX10_drain 2 RX10 (some FieldType.int) 6 0 0 := hc
  show hv_R X 2 0 0 (hv_QX X 0 0 0) (f_X10_drain x1 mem) mem [] [(0, .ref (hv_ad X 0)), (1, .int (hv_I x1))] [] 0
  unfold f_X10_drain
  refine hv_aload_n hc dX10_drain_0 rfl (hv_m 0 rfl) ?_
  refine hv_iload_n hc dX10_drain_1 rfl (hv_m 1 rfl) ?_
  refine hv_callVi hc (c_X10_has x1 mem) yv_X10_has tw_803 sh_o_0 rfl rfl rfl rfl (Nat.le_of_ble_eq_true rfl) (Nat.le_of_ble_eq_true rfl) (Nat.zero_le _) (Nat.zero_le _) dX10_drain_2 (fun r1 m2 => ?_)
  refine hv_if_eq (tgt := 19) hc dX10_drain_5 (by decide) ?_ ?_
  · refine hv_bipush hc dX10_drain_19 (by decide) ?_
    exact hv_iret hc dX10_drain_21
  · refine hv_aload_n hc dX10_drain_8 rfl (hv_m 0 rfl) ?_
    refine hv_callVa hc (c_X10_heaps m2) yv_X10_heaps tw_858 sh_o_0 rfl rfl rfl rfl (Nat.le_of_ble_eq_true rfl) (Nat.le_of_ble_eq_true rfl) (Nat.zero_le _) (Nat.zero_le _) dX10_drain_9 (fun r3 m4 => ?_)
    refine hv_isR (p := 26) (q := 42) (fun b5 hb5 => ?_)
    refine hv_iload_n hc dX10_drain_12 rfl (hv_m 1 rfl) ?_
    refine hv_callVi hc (c_X2_linksToEmpty b5 hb5 x1 m4) yv_X2_linksToEmpty tw_982 (sh_X2 hb5) rfl rfl rfl rfl (Nat.le_of_ble_eq_true rfl) (Nat.le_of_ble_eq_true rfl) (Nat.zero_le _) (Nat.zero_le _) dX10_drain_13 (fun r6 m7 => ?_)
    refine hv_goto (tgt := 21) hc dX10_drain_16 (by decide) ?_
    exact hv_iret hc dX10_drain_21
def f_X10_dearest (x1 : Int) (mem : hMem) : hRs := hv_b (f_X10_has x1 mem) (fun r1 m2 => hv_eq r1 0 (hv_ret ((-2)) m2) (hv_b (f_X10_heaps m2) (fun r3 m4 => hv_is 26 42 r3 (fun b5 => hv_b (f_X2_mostToEmpty b5 x1 m4) (fun r6 m7 => hv_ret r6 m7)))))
set_option maxRecDepth 100000 in
set_option maxHeartbeats 4000000 in
theorem c_X10_dearest (x1 : Int) (mem : hMem) : hv_Met 7 0 0 0 yX10_dearest cX10_dearest 2 (some FieldType.int) (fun ad _ _ => [.ref (ad 0), .int (hv_I x1)]) mem (f_X10_dearest x1 mem) := by
  refine hv_start (by decide +kernel) (fun _ _ _ => Nat.le_of_ble_eq_true rfl) ?_
  intro X hc
  have hc : hv_C X cX10_dearest 2 RX10 (some FieldType.int) 7 0 0 := hc
  show hv_R X 2 0 0 (hv_QX X 0 0 0) (f_X10_dearest x1 mem) mem [] [(0, .ref (hv_ad X 0)), (1, .int (hv_I x1))] [] 0
  unfold f_X10_dearest
  refine hv_aload_n hc dX10_dearest_0 rfl (hv_m 0 rfl) ?_
  refine hv_iload_n hc dX10_dearest_1 rfl (hv_m 1 rfl) ?_
  refine hv_callVi hc (c_X10_has x1 mem) yv_X10_has tw_803 sh_o_0 rfl rfl rfl rfl (Nat.le_of_ble_eq_true rfl) (Nat.le_of_ble_eq_true rfl) (Nat.zero_le _) (Nat.zero_le _) dX10_dearest_2 (fun r1 m2 => ?_)
  refine hv_if_eq (tgt := 19) hc dX10_dearest_5 (by decide) ?_ ?_
  · refine hv_bipush hc dX10_dearest_19 (by decide) ?_
    exact hv_iret hc dX10_dearest_21
  · refine hv_aload_n hc dX10_dearest_8 rfl (hv_m 0 rfl) ?_
    refine hv_callVa hc (c_X10_heaps m2) yv_X10_heaps tw_858 sh_o_0 rfl rfl rfl rfl (Nat.le_of_ble_eq_true rfl) (Nat.le_of_ble_eq_true rfl) (Nat.zero_le _) (Nat.zero_le _) dX10_dearest_9 (fun r3 m4 => ?_)
    refine hv_isR (p := 26) (q := 42) (fun b5 hb5 => ?_)
    refine hv_iload_n hc dX10_dearest_12 rfl (hv_m 1 rfl) ?_
    refine hv_callVi hc (c_X2_mostToEmpty b5 hb5 x1 m4) yv_X2_mostToEmpty tw_990 (sh_X2 hb5) rfl rfl rfl rfl (Nat.le_of_ble_eq_true rfl) (Nat.le_of_ble_eq_true rfl) (Nat.zero_le _) (Nat.zero_le _) dX10_dearest_13 (fun r6 m7 => ?_)
    refine hv_goto (tgt := 21) hc dX10_dearest_16 (by decide) ?_
    exact hv_iret hc dX10_dearest_21
def f_X10_same (x1 x2 : Int) (mem : hMem) : hRs := hv_b (f_X10_has x1 mem) (fun r1 m2 => hv_eq r1 0 (hv_ret ((-2)) m2) (hv_b (f_X10_has x2 m2) (fun r3 m4 => hv_eq r3 0 (hv_ret ((-2)) m4) (hv_b (f_X0_excess 20 x1 x2 m4) (fun r5 m6 => hv_eq r5 0 (hv_b (f_X0_excess 20 x2 x1 m6) (fun r7 m8 => hv_eq r7 0 (hv_ret 1 m8) (hv_ret 0 m8))) (hv_ret 0 m6))))))
set_option maxRecDepth 100000 in
set_option maxHeartbeats 4000000 in
theorem c_X10_same (x1 x2 : Int) (mem : hMem) : hv_Met 3 0 0 0 yX10_same cX10_same 3 (some FieldType.int) (fun ad _ _ => [.ref (ad 0), .int (hv_I x1), .int (hv_I x2)]) mem (f_X10_same x1 x2 mem) := by
  refine hv_start (by decide +kernel) (fun _ _ _ => Nat.le_of_ble_eq_true rfl) ?_
  intro X hc
  have hc : hv_C X cX10_same 3 RX10 (some FieldType.int) 3 0 0 := hc
  show hv_R X 3 0 0 (hv_QX X 0 0 0) (f_X10_same x1 x2 mem) mem [] [(0, .ref (hv_ad X 0)), (1, .int (hv_I x1)), (2, .int (hv_I x2))] [] 0
  unfold f_X10_same
  refine hv_aload_n hc dX10_same_0 rfl (hv_m 0 rfl) ?_
  refine hv_iload_n hc dX10_same_1 rfl (hv_m 1 rfl) ?_
  refine hv_callVi hc (c_X10_has x1 mem) yv_X10_has tw_803 sh_o_0 rfl rfl rfl rfl (Nat.le_of_ble_eq_true rfl) (Nat.le_of_ble_eq_true rfl) (Nat.zero_le _) (Nat.zero_le _) dX10_same_2 (fun r1 m2 => ?_)
  refine hv_if_eq (tgt := 16) hc dX10_same_5 (by decide) ?_ ?_
  · refine hv_bipush hc dX10_same_16 (by decide) ?_
    exact hv_iret hc dX10_same_18
  · refine hv_aload_n hc dX10_same_8 rfl (hv_m 0 rfl) ?_
    refine hv_iload_n hc dX10_same_9 rfl (hv_m 2 rfl) ?_
    refine hv_callVi hc (c_X10_has x2 m2) yv_X10_has tw_803 sh_o_0 rfl rfl rfl rfl (Nat.le_of_ble_eq_true rfl) (Nat.le_of_ble_eq_true rfl) (Nat.zero_le _) (Nat.zero_le _) dX10_same_10 (fun r3 m4 => ?_)
    refine hv_if_ne (tgt := 19) hc dX10_same_13 (by decide) ?_ ?_
    · refine hv_aload_n hc dX10_same_19 rfl (hv_m 0 rfl) ?_
      refine hv_getR hc fl_X10_42 sh_o_0 rfl dX10_same_20 ?_
      refine hv_iload_n hc dX10_same_23 rfl (hv_m 1 rfl) ?_
      refine hv_iload_n hc dX10_same_24 rfl (hv_m 2 rfl) ?_
      refine hv_callVi hc (c_X0_excess 20 (by decide) x1 x2 m4) yv_X0_excess tw_999 sh_o_20 rfl rfl rfl rfl (Nat.le_of_ble_eq_true rfl) (Nat.le_of_ble_eq_true rfl) (Nat.zero_le _) (Nat.zero_le _) dX10_same_25 (fun r5 m6 => ?_)
      refine hv_if_ne (tgt := 47) hc dX10_same_28 (by decide) ?_ ?_
      · refine hv_iconst hc dX10_same_47 ?_
        exact hv_iret hc dX10_same_48
      · refine hv_aload_n hc dX10_same_31 rfl (hv_m 0 rfl) ?_
        refine hv_getR hc fl_X10_42 sh_o_0 rfl dX10_same_32 ?_
        refine hv_iload_n hc dX10_same_35 rfl (hv_m 2 rfl) ?_
        refine hv_iload_n hc dX10_same_36 rfl (hv_m 1 rfl) ?_
        refine hv_callVi hc (c_X0_excess 20 (by decide) x2 x1 m6) yv_X0_excess tw_999 sh_o_20 rfl rfl rfl rfl (Nat.le_of_ble_eq_true rfl) (Nat.le_of_ble_eq_true rfl) (Nat.zero_le _) (Nat.zero_le _) dX10_same_37 (fun r7 m8 => ?_)
        refine hv_if_ne (tgt := 47) hc dX10_same_40 (by decide) ?_ ?_
        · refine hv_iconst hc dX10_same_47 ?_
          exact hv_iret hc dX10_same_48
        · refine hv_iconst hc dX10_same_43 ?_
          refine hv_goto (tgt := 48) hc dX10_same_44 (by decide) ?_
          exact hv_iret hc dX10_same_48
    · refine hv_bipush hc dX10_same_16 (by decide) ?_
      exact hv_iret hc dX10_same_18
def f_X10_more (x1 x2 : Int) (mem : hMem) : hRs := hv_b (f_X10_has x1 mem) (fun r1 m2 => hv_eq r1 0 (hv_ret ((-2)) m2) (hv_b (f_X10_has x2 m2) (fun r3 m4 => hv_eq r3 0 (hv_ret ((-2)) m4) (hv_b (f_X0_excess 20 x1 x2 m4) (fun r5 m6 => hv_ret r5 m6)))))
set_option maxRecDepth 100000 in
set_option maxHeartbeats 4000000 in
theorem c_X10_more (x1 x2 : Int) (mem : hMem) : hv_Met 3 0 0 0 yX10_more cX10_more 3 (some FieldType.int) (fun ad _ _ => [.ref (ad 0), .int (hv_I x1), .int (hv_I x2)]) mem (f_X10_more x1 x2 mem) := by
  refine hv_start (by decide +kernel) (fun _ _ _ => Nat.le_of_ble_eq_true rfl) ?_
  intro X hc
  have hc : hv_C X cX10_more 3 RX10 (some FieldType.int) 3 0 0 := hc
  show hv_R X 3 0 0 (hv_QX X 0 0 0) (f_X10_more x1 x2 mem) mem [] [(0, .ref (hv_ad X 0)), (1, .int (hv_I x1)), (2, .int (hv_I x2))] [] 0
  unfold f_X10_more
  refine hv_aload_n hc dX10_more_0 rfl (hv_m 0 rfl) ?_
  refine hv_iload_n hc dX10_more_1 rfl (hv_m 1 rfl) ?_
  refine hv_callVi hc (c_X10_has x1 mem) yv_X10_has tw_803 sh_o_0 rfl rfl rfl rfl (Nat.le_of_ble_eq_true rfl) (Nat.le_of_ble_eq_true rfl) (Nat.zero_le _) (Nat.zero_le _) dX10_more_2 (fun r1 m2 => ?_)
  refine hv_if_eq (tgt := 28) hc dX10_more_5 (by decide) ?_ ?_
  · refine hv_bipush hc dX10_more_28 (by decide) ?_
    exact hv_iret hc dX10_more_30
  · refine hv_aload_n hc dX10_more_8 rfl (hv_m 0 rfl) ?_
    refine hv_iload_n hc dX10_more_9 rfl (hv_m 2 rfl) ?_
    refine hv_callVi hc (c_X10_has x2 m2) yv_X10_has tw_803 sh_o_0 rfl rfl rfl rfl (Nat.le_of_ble_eq_true rfl) (Nat.le_of_ble_eq_true rfl) (Nat.zero_le _) (Nat.zero_le _) dX10_more_10 (fun r3 m4 => ?_)
    refine hv_if_eq (tgt := 28) hc dX10_more_13 (by decide) ?_ ?_
    · refine hv_bipush hc dX10_more_28 (by decide) ?_
      exact hv_iret hc dX10_more_30
    · refine hv_aload_n hc dX10_more_16 rfl (hv_m 0 rfl) ?_
      refine hv_getR hc fl_X10_42 sh_o_0 rfl dX10_more_17 ?_
      refine hv_iload_n hc dX10_more_20 rfl (hv_m 1 rfl) ?_
      refine hv_iload_n hc dX10_more_21 rfl (hv_m 2 rfl) ?_
      refine hv_callVi hc (c_X0_excess 20 (by decide) x1 x2 m4) yv_X0_excess tw_999 sh_o_20 rfl rfl rfl rfl (Nat.le_of_ble_eq_true rfl) (Nat.le_of_ble_eq_true rfl) (Nat.zero_le _) (Nat.zero_le _) dX10_more_22 (fun r5 m6 => ?_)
      refine hv_goto (tgt := 30) hc dX10_more_25 (by decide) ?_
      exact hv_iret hc dX10_more_30
def f_X10_from (x1 x2 : Int) (mem : hMem) : hRs := hv_b (f_X10_has x1 mem) (fun r1 m2 => hv_eq r1 0 (hv_ret ((-2)) m2) (hv_b (f_X10_has x2 m2) (fun r3 m4 => hv_eq r3 0 (hv_ret ((-2)) m4) (hv_eq x1 x2 (hv_ret 1 m4) (hv_b (f_X6_madeOf x1 x2 m4) (fun r5 m6 => hv_eq r5 0 (hv_ret 0 m6) (hv_ret 1 m6)))))))
set_option maxRecDepth 100000 in
set_option maxHeartbeats 4000000 in
theorem c_X10_from (x1 x2 : Int) (mem : hMem) : hv_Met 2 0 0 0 yX10_from cX10_from 3 (some FieldType.int) (fun ad _ _ => [.ref (ad 0), .int (hv_I x1), .int (hv_I x2)]) mem (f_X10_from x1 x2 mem) := by
  refine hv_start (by decide +kernel) (fun _ _ _ => Nat.le_of_ble_eq_true rfl) ?_
  intro X hc
  have hc : hv_C X cX10_from 3 RX10 (some FieldType.int) 2 0 0 := hc
  show hv_R X 3 0 0 (hv_QX X 0 0 0) (f_X10_from x1 x2 mem) mem [] [(0, .ref (hv_ad X 0)), (1, .int (hv_I x1)), (2, .int (hv_I x2))] [] 0
  unfold f_X10_from
  refine hv_aload_n hc dX10_from_0 rfl (hv_m 0 rfl) ?_
  refine hv_iload_n hc dX10_from_1 rfl (hv_m 1 rfl) ?_
  refine hv_callVi hc (c_X10_has x1 mem) yv_X10_has tw_803 sh_o_0 rfl rfl rfl rfl (Nat.le_of_ble_eq_true rfl) (Nat.le_of_ble_eq_true rfl) (Nat.zero_le _) (Nat.zero_le _) dX10_from_2 (fun r1 m2 => ?_)
  refine hv_if_eq (tgt := 16) hc dX10_from_5 (by decide) ?_ ?_
  · refine hv_bipush hc dX10_from_16 (by decide) ?_
    exact hv_iret hc dX10_from_18
  · refine hv_aload_n hc dX10_from_8 rfl (hv_m 0 rfl) ?_
    refine hv_iload_n hc dX10_from_9 rfl (hv_m 2 rfl) ?_
    refine hv_callVi hc (c_X10_has x2 m2) yv_X10_has tw_803 sh_o_0 rfl rfl rfl rfl (Nat.le_of_ble_eq_true rfl) (Nat.le_of_ble_eq_true rfl) (Nat.zero_le _) (Nat.zero_le _) dX10_from_10 (fun r3 m4 => ?_)
    refine hv_if_ne (tgt := 19) hc dX10_from_13 (by decide) ?_ ?_
    · refine hv_iload_n hc dX10_from_19 rfl (hv_m 1 rfl) ?_
      refine hv_iload_n hc dX10_from_20 rfl (hv_m 2 rfl) ?_
      refine hv_icmp_eq (tgt := 36) hc dX10_from_21 (by decide) ?_ ?_
      · refine hv_iconst hc dX10_from_36 ?_
        refine hv_goto (tgt := 41) hc dX10_from_37 (by decide) ?_
        exact hv_iret hc dX10_from_41
      · refine hv_aload_n hc dX10_from_24 rfl (hv_m 0 rfl) ?_
        refine hv_getR hc fl_X10_35 sh_o_0 rfl dX10_from_25 ?_
        refine hv_iload_n hc dX10_from_28 rfl (hv_m 1 rfl) ?_
        refine hv_iload_n hc dX10_from_29 rfl (hv_m 2 rfl) ?_
        refine hv_callVi hc (c_X6_madeOf x1 x2 m4) yv_X6_madeOf tw_1011 sh_o_14 rfl rfl rfl rfl (Nat.le_of_ble_eq_true rfl) (Nat.le_of_ble_eq_true rfl) (Nat.zero_le _) (Nat.zero_le _) dX10_from_30 (fun r5 m6 => ?_)
        refine hv_if_eq (tgt := 40) hc dX10_from_33 (by decide) ?_ ?_
        · refine hv_iconst hc dX10_from_40 ?_
          exact hv_iret hc dX10_from_41
        · refine hv_iconst hc dX10_from_36 ?_
          refine hv_goto (tgt := 41) hc dX10_from_37 (by decide) ?_
          exact hv_iret hc dX10_from_41
    · refine hv_bipush hc dX10_from_16 (by decide) ?_
      exact hv_iret hc dX10_from_18
def f_X10_roots (x1 : Int) (mem : hMem) : hRs := hv_b (f_X10_has x1 mem) (fun r1 m2 => hv_eq r1 0 (hv_ret ((-2)) m2) (hv_b (f_X6_rootsOf x1 m2) (fun r3 m4 => hv_ret r3 m4)))
set_option maxRecDepth 100000 in
set_option maxHeartbeats 4000000 in
theorem c_X10_roots (x1 : Int) (mem : hMem) : hv_Met 2 0 0 0 yX10_roots cX10_roots 2 (some FieldType.int) (fun ad _ _ => [.ref (ad 0), .int (hv_I x1)]) mem (f_X10_roots x1 mem) := by
  refine hv_start (by decide +kernel) (fun _ _ _ => Nat.le_of_ble_eq_true rfl) ?_
  intro X hc
  have hc : hv_C X cX10_roots 2 RX10 (some FieldType.int) 2 0 0 := hc
  show hv_R X 2 0 0 (hv_QX X 0 0 0) (f_X10_roots x1 mem) mem [] [(0, .ref (hv_ad X 0)), (1, .int (hv_I x1))] [] 0
  unfold f_X10_roots
  refine hv_aload_n hc dX10_roots_0 rfl (hv_m 0 rfl) ?_
  refine hv_iload_n hc dX10_roots_1 rfl (hv_m 1 rfl) ?_
  refine hv_callVi hc (c_X10_has x1 mem) yv_X10_has tw_803 sh_o_0 rfl rfl rfl rfl (Nat.le_of_ble_eq_true rfl) (Nat.le_of_ble_eq_true rfl) (Nat.zero_le _) (Nat.zero_le _) dX10_roots_2 (fun r1 m2 => ?_)
  refine hv_if_eq (tgt := 19) hc dX10_roots_5 (by decide) ?_ ?_
  · refine hv_bipush hc dX10_roots_19 (by decide) ?_
    exact hv_iret hc dX10_roots_21
  · refine hv_aload_n hc dX10_roots_8 rfl (hv_m 0 rfl) ?_
    refine hv_getR hc fl_X10_35 sh_o_0 rfl dX10_roots_9 ?_
    refine hv_iload_n hc dX10_roots_12 rfl (hv_m 1 rfl) ?_
    refine hv_callVi hc (c_X6_rootsOf x1 m2) yv_X6_rootsOf tw_1019 sh_o_14 rfl rfl rfl rfl (Nat.le_of_ble_eq_true rfl) (Nat.le_of_ble_eq_true rfl) (Nat.zero_le _) (Nat.zero_le _) dX10_roots_13 (fun r3 m4 => ?_)
    refine hv_goto (tgt := 21) hc dX10_roots_16 (by decide) ?_
    exact hv_iret hc dX10_roots_21
def B_X10_suppose_32 (R32 : Int → Int → Int → hMem → hRs) (x1 x2 x3 : Int) (mem : hMem) : hRs := hv_lt x1 x3 (hv_zr 1 mem) (hv_lt x3 30 (hv_eq x3 x2 (hv_b (f_X6_firstOf x3 mem) (fun r14 m15 => hv_b (f_X0_copy 23 x3 r14 0 m15) (fun r16 m17 => hv_set (x3 + 1) (fun y18 => R32 x1 x2 y18 m17)))) (hv_b (f_X6_howOf x3 mem) (fun r1 m2 => hv_b (f_X6_firstOf x3 m2) (fun r3 m4 => hv_b (f_X6_secondOf x3 m4) (fun r5 m6 => hv_b (f_X6_jobOf x3 m6) (fun r7 m8 => hv_b (f_X3_turnOf r7 m8) (fun r9 m10 => hv_b (f_X0_make 23 x3 r1 r3 r5 r9 m10) (fun r11 m12 => hv_set (x3 + 1) (fun y13 => R32 x1 x2 y13 m12))))))))) (hv_zr 1 mem))
def L_X10_suppose_32 : Nat → Int → Int → Int → hMem → hRs
  | 0 => fun _ _ _ _ => none
  | n + 1 => B_X10_suppose_32 (L_X10_suppose_32 n)
set_option maxRecDepth 100000 in
theorem gB_X10_suppose_32 {X : hv_X} (hc : hv_C X cX10_suppose 4 RX10 (some FieldType.boolean) 5 0 0) (R32 : Int → Int → Int → hMem → hRs) (hR32 : ∀ (x1 x2 x3 : Int) (mem : hMem), hv_R X 4 0 0 (hv_QX X 0 0 0) (R32 x1 x2 x3 mem) mem [] [(0, .ref (hv_ad X 0)), (1, .int (hv_I x1)), (2, .int (hv_I x2)), (3, .int (hv_I x3))] [] 32) (x1 x2 x3 : Int) (mem : hMem) : hv_R X 4 0 0 (hv_QX X 0 0 0) (B_X10_suppose_32 R32 x1 x2 x3 mem) mem [] [(0, .ref (hv_ad X 0)), (1, .int (hv_I x1)), (2, .int (hv_I x2)), (3, .int (hv_I x3))] [] 32 := by
  unfold B_X10_suppose_32
  refine hv_iload_n hc dX10_suppose_32 rfl (hv_m 3 rfl) ?_
  refine hv_iload_n hc dX10_suppose_33 rfl (hv_m 1 rfl) ?_
  refine hv_icmp_gt (tgt := 121) hc dX10_suppose_34 (by decide) ?_ ?_
  · refine hv_iconst hc dX10_suppose_121 ?_
    exact hv_zret hc dX10_suppose_122
  · refine hv_iload_n hc dX10_suppose_37 rfl (hv_m 3 rfl) ?_
    refine hv_bipush hc dX10_suppose_38 (by decide) ?_
    refine hv_icmp_ge (tgt := 121) hc dX10_suppose_40 (by decide) ?_ ?_
    · refine hv_iconst hc dX10_suppose_121 ?_
      exact hv_zret hc dX10_suppose_122
    · refine hv_iload_n hc dX10_suppose_43 rfl (hv_m 3 rfl) ?_
      refine hv_iload_n hc dX10_suppose_44 rfl (hv_m 2 rfl) ?_
      refine hv_icmp_ne (tgt := 68) hc dX10_suppose_45 (by decide) ?_ ?_
      · refine hv_aload_n hc dX10_suppose_68 rfl (hv_m 0 rfl) ?_
        refine hv_getR hc fl_X10_46 sh_o_0 rfl dX10_suppose_69 ?_
        refine hv_iload_n hc dX10_suppose_72 rfl (hv_m 3 rfl) ?_
        refine hv_aload_n hc dX10_suppose_73 rfl (hv_m 0 rfl) ?_
        refine hv_getR hc fl_X10_35 sh_o_0 rfl dX10_suppose_74 ?_
        refine hv_iload_n hc dX10_suppose_77 rfl (hv_m 3 rfl) ?_
        refine hv_callVi hc (c_X6_howOf x3 mem) yv_X6_howOf tw_807 sh_o_14 rfl rfl rfl rfl (Nat.le_of_ble_eq_true rfl) (Nat.le_of_ble_eq_true rfl) (Nat.zero_le _) (Nat.zero_le _) dX10_suppose_78 (fun r1 m2 => ?_)
        refine hv_aload_n hc dX10_suppose_81 rfl (hv_m 0 rfl) ?_
        refine hv_getR hc fl_X10_35 sh_o_0 rfl dX10_suppose_82 ?_
        refine hv_iload_n hc dX10_suppose_85 rfl (hv_m 3 rfl) ?_
        refine hv_callVi hc (c_X6_firstOf x3 m2) yv_X6_firstOf tw_808 sh_o_14 rfl rfl rfl rfl (Nat.le_of_ble_eq_true rfl) (Nat.le_of_ble_eq_true rfl) (Nat.zero_le _) (Nat.zero_le _) dX10_suppose_86 (fun r3 m4 => ?_)
        refine hv_aload_n hc dX10_suppose_89 rfl (hv_m 0 rfl) ?_
        refine hv_getR hc fl_X10_35 sh_o_0 rfl dX10_suppose_90 ?_
        refine hv_iload_n hc dX10_suppose_93 rfl (hv_m 3 rfl) ?_
        refine hv_callVi hc (c_X6_secondOf x3 m4) yv_X6_secondOf tw_812 sh_o_14 rfl rfl rfl rfl (Nat.le_of_ble_eq_true rfl) (Nat.le_of_ble_eq_true rfl) (Nat.zero_le _) (Nat.zero_le _) dX10_suppose_94 (fun r5 m6 => ?_)
        refine hv_aload_n hc dX10_suppose_97 rfl (hv_m 0 rfl) ?_
        refine hv_getR hc fl_X10_28 sh_o_0 rfl dX10_suppose_98 ?_
        refine hv_aload_n hc dX10_suppose_101 rfl (hv_m 0 rfl) ?_
        refine hv_getR hc fl_X10_35 sh_o_0 rfl dX10_suppose_102 ?_
        refine hv_iload_n hc dX10_suppose_105 rfl (hv_m 3 rfl) ?_
        refine hv_callVi hc (c_X6_jobOf x3 m6) yv_X6_jobOf tw_816 sh_o_14 rfl rfl rfl rfl (Nat.le_of_ble_eq_true rfl) (Nat.le_of_ble_eq_true rfl) (Nat.zero_le _) (Nat.zero_le _) dX10_suppose_106 (fun r7 m8 => ?_)
        refine hv_callVi hc (c_X3_turnOf r7 m8) yv_X3_turnOf tw_627 sh_o_11 rfl rfl rfl rfl (Nat.le_of_ble_eq_true rfl) (Nat.le_of_ble_eq_true rfl) (Nat.zero_le _) (Nat.zero_le _) dX10_suppose_109 (fun r9 m10 => ?_)
        refine hv_callVv hc (c_X0_make 23 (by decide) x3 r1 r3 r5 r9 m10) yv_X0_make tw_636 sh_o_23 rfl rfl rfl rfl (Nat.le_of_ble_eq_true rfl) (Nat.le_of_ble_eq_true rfl) (Nat.zero_le _) (Nat.zero_le _) dX10_suppose_112 (fun r11 m12 => ?_)
        refine hv_iinc_s (lvf := fun y13 => [(3, .int (hv_I y13)), (0, .ref (hv_ad X 0)), (1, .int (hv_I x1)), (2, .int (hv_I x2))]) hc dX10_suppose_115 (by decide) (hv_m 3 rfl) (fun _ => rfl) (fun y13 => ?_)
        refine hv_goto (tgt := 32) hc dX10_suppose_118 (by decide) ?_
        exact hv_pick [1, 2, 3, 0] rfl (hR32 x1 x2 y13 m12)
      · refine hv_aload_n hc dX10_suppose_48 rfl (hv_m 0 rfl) ?_
        refine hv_getR hc fl_X10_46 sh_o_0 rfl dX10_suppose_49 ?_
        refine hv_iload_n hc dX10_suppose_52 rfl (hv_m 3 rfl) ?_
        refine hv_aload_n hc dX10_suppose_53 rfl (hv_m 0 rfl) ?_
        refine hv_getR hc fl_X10_35 sh_o_0 rfl dX10_suppose_54 ?_
        refine hv_iload_n hc dX10_suppose_57 rfl (hv_m 3 rfl) ?_
        refine hv_callVi hc (c_X6_firstOf x3 mem) yv_X6_firstOf tw_808 sh_o_14 rfl rfl rfl rfl (Nat.le_of_ble_eq_true rfl) (Nat.le_of_ble_eq_true rfl) (Nat.zero_le _) (Nat.zero_le _) dX10_suppose_58 (fun r14 m15 => ?_)
        refine hv_iconst hc dX10_suppose_61 ?_
        refine hv_callVv hc (c_X0_copy 23 (by decide) x3 r14 0 m15) yv_X0_copy tw_1037 sh_o_23 rfl rfl rfl rfl (Nat.le_of_ble_eq_true rfl) (Nat.le_of_ble_eq_true rfl) (Nat.zero_le _) (Nat.zero_le _) dX10_suppose_62 (fun r16 m17 => ?_)
        refine hv_goto (tgt := 115) hc dX10_suppose_65 (by decide) ?_
        refine hv_iinc_s (lvf := fun y18 => [(3, .int (hv_I y18)), (0, .ref (hv_ad X 0)), (1, .int (hv_I x1)), (2, .int (hv_I x2))]) hc dX10_suppose_115 (by decide) (hv_m 3 rfl) (fun _ => rfl) (fun y18 => ?_)
        refine hv_goto (tgt := 32) hc dX10_suppose_118 (by decide) ?_
        exact hv_pick [1, 2, 3, 0] rfl (hR32 x1 x2 y18 m17)
theorem g_X10_suppose_32 {X : hv_X} (hc : hv_C X cX10_suppose 4 RX10 (some FieldType.boolean) 5 0 0) : ∀ (n : Nat) (x1 x2 x3 : Int) (mem : hMem), hv_R X 4 0 0 (hv_QX X 0 0 0) (L_X10_suppose_32 n x1 x2 x3 mem) mem [] [(0, .ref (hv_ad X 0)), (1, .int (hv_I x1)), (2, .int (hv_I x2)), (3, .int (hv_I x3))] [] 32 := by
  intro n
  induction n with
  | zero => intros; exact hv_none
  | succ n ih => exact gB_X10_suppose_32 hc _ ih
def f_X10_suppose (x1 x2 : Int) (mem : hMem) : hRs := hv_b (f_X10_has x1 mem) (fun r1 m2 => hv_eq r1 0 (hv_zr 0 m2) (hv_b (f_X10_has x2 m2) (fun r3 m4 => hv_eq r3 0 (hv_zr 0 m4) (hv_b (f_X6_howOf x2 m4) (fun r5 m6 => hv_eq r5 1 (L_X10_suppose_32 hv_FU x1 x2 0 m6) (hv_zr 0 m6))))))
set_option maxRecDepth 100000 in
set_option maxHeartbeats 4000000 in
theorem c_X10_suppose (x1 x2 : Int) (mem : hMem) : hv_Met 5 0 0 0 yX10_suppose cX10_suppose 4 (some FieldType.boolean) (fun ad _ _ => [.ref (ad 0), .int (hv_I x1), .int (hv_I x2)]) mem (f_X10_suppose x1 x2 mem) := by
  refine hv_start (by decide +kernel) (fun _ _ _ => Nat.le_of_ble_eq_true rfl) ?_
  intro X hc
  have hc : hv_C X cX10_suppose 4 RX10 (some FieldType.boolean) 5 0 0 := hc
  show hv_R X 4 0 0 (hv_QX X 0 0 0) (f_X10_suppose x1 x2 mem) mem [] [(0, .ref (hv_ad X 0)), (1, .int (hv_I x1)), (2, .int (hv_I x2))] [] 0
  unfold f_X10_suppose
  refine hv_aload_n hc dX10_suppose_0 rfl (hv_m 0 rfl) ?_
  refine hv_iload_n hc dX10_suppose_1 rfl (hv_m 1 rfl) ?_
  refine hv_callVi hc (c_X10_has x1 mem) yv_X10_has tw_803 sh_o_0 rfl rfl rfl rfl (Nat.le_of_ble_eq_true rfl) (Nat.le_of_ble_eq_true rfl) (Nat.zero_le _) (Nat.zero_le _) dX10_suppose_2 (fun r1 m2 => ?_)
  refine hv_if_eq (tgt := 28) hc dX10_suppose_5 (by decide) ?_ ?_
  · refine hv_iconst hc dX10_suppose_28 ?_
    exact hv_zret hc dX10_suppose_29
  · refine hv_aload_n hc dX10_suppose_8 rfl (hv_m 0 rfl) ?_
    refine hv_iload_n hc dX10_suppose_9 rfl (hv_m 2 rfl) ?_
    refine hv_callVi hc (c_X10_has x2 m2) yv_X10_has tw_803 sh_o_0 rfl rfl rfl rfl (Nat.le_of_ble_eq_true rfl) (Nat.le_of_ble_eq_true rfl) (Nat.zero_le _) (Nat.zero_le _) dX10_suppose_10 (fun r3 m4 => ?_)
    refine hv_if_eq (tgt := 28) hc dX10_suppose_13 (by decide) ?_ ?_
    · refine hv_iconst hc dX10_suppose_28 ?_
      exact hv_zret hc dX10_suppose_29
    · refine hv_aload_n hc dX10_suppose_16 rfl (hv_m 0 rfl) ?_
      refine hv_getR hc fl_X10_35 sh_o_0 rfl dX10_suppose_17 ?_
      refine hv_iload_n hc dX10_suppose_20 rfl (hv_m 2 rfl) ?_
      refine hv_callVi hc (c_X6_howOf x2 m4) yv_X6_howOf tw_807 sh_o_14 rfl rfl rfl rfl (Nat.le_of_ble_eq_true rfl) (Nat.le_of_ble_eq_true rfl) (Nat.zero_le _) (Nat.zero_le _) dX10_suppose_21 (fun r5 m6 => ?_)
      refine hv_iconst hc dX10_suppose_24 ?_
      refine hv_icmp_eq (tgt := 30) hc dX10_suppose_25 (by decide) ?_ ?_
      · refine hv_iconst hc dX10_suppose_30 ?_
        refine hv_istore_n (lv' := [(3, .int (hv_I 0)), (0, .ref (hv_ad X 0)), (1, .int (hv_I x1)), (2, .int (hv_I x2))]) hc dX10_suppose_31 rfl (by decide) rfl ?_
        exact hv_pick [1, 2, 3, 0] rfl (g_X10_suppose_32 hc hv_FU x1 x2 0 m6)
      · refine hv_iconst hc dX10_suppose_28 ?_
        exact hv_zret hc dX10_suppose_29
def f_X10_without (x1 x2 : Int) (mem : hMem) : hRs := hv_b (f_X10_suppose x1 x2 mem) (fun r1 m2 => hv_eq r1 0 (hv_ret ((-2)) m2) (hv_b (f_X0_jobAt 23 x1 0 m2) (fun r3 m4 => hv_ret r3 m4)))
set_option maxRecDepth 100000 in
set_option maxHeartbeats 4000000 in
theorem c_X10_without (x1 x2 : Int) (mem : hMem) : hv_Met 6 0 0 0 yX10_without cX10_without 3 (some FieldType.int) (fun ad _ _ => [.ref (ad 0), .int (hv_I x1), .int (hv_I x2)]) mem (f_X10_without x1 x2 mem) := by
  refine hv_start (by decide +kernel) (fun _ _ _ => Nat.le_of_ble_eq_true rfl) ?_
  intro X hc
  have hc : hv_C X cX10_without 3 RX10 (some FieldType.int) 6 0 0 := hc
  show hv_R X 3 0 0 (hv_QX X 0 0 0) (f_X10_without x1 x2 mem) mem [] [(0, .ref (hv_ad X 0)), (1, .int (hv_I x1)), (2, .int (hv_I x2))] [] 0
  unfold f_X10_without
  refine hv_aload_n hc dX10_without_0 rfl (hv_m 0 rfl) ?_
  refine hv_iload_n hc dX10_without_1 rfl (hv_m 1 rfl) ?_
  refine hv_iload_n hc dX10_without_2 rfl (hv_m 2 rfl) ?_
  refine hv_callVi hc (c_X10_suppose x1 x2 mem) yv_X10_suppose tw_1033 sh_o_0 rfl rfl rfl rfl (Nat.le_of_ble_eq_true rfl) (Nat.le_of_ble_eq_true rfl) (Nat.zero_le _) (Nat.zero_le _) dX10_without_3 (fun r1 m2 => ?_)
  refine hv_if_eq (tgt := 21) hc dX10_without_6 (by decide) ?_ ?_
  · refine hv_bipush hc dX10_without_21 (by decide) ?_
    exact hv_iret hc dX10_without_23
  · refine hv_aload_n hc dX10_without_9 rfl (hv_m 0 rfl) ?_
    refine hv_getR hc fl_X10_46 sh_o_0 rfl dX10_without_10 ?_
    refine hv_iload_n hc dX10_without_13 rfl (hv_m 1 rfl) ?_
    refine hv_iconst hc dX10_without_14 ?_
    refine hv_callVi hc (c_X0_jobAt 23 (by decide) x1 0 m2) yv_X0_jobAt tw_611 sh_o_23 rfl rfl rfl rfl (Nat.le_of_ble_eq_true rfl) (Nat.le_of_ble_eq_true rfl) (Nat.zero_le _) (Nat.zero_le _) dX10_without_15 (fun r3 m4 => ?_)
    refine hv_goto (tgt := 23) hc dX10_without_18 (by decide) ?_
    exact hv_iret hc dX10_without_23
def f_X10_left (x1 x2 : Int) (mem : hMem) : hRs := hv_b (f_X10_suppose x1 x2 mem) (fun r1 m2 => hv_eq r1 0 (hv_ret ((-2)) m2) (hv_b (f_X0_sizeOf 23 x1 m2) (fun r3 m4 => hv_ret r3 m4)))
set_option maxRecDepth 100000 in
set_option maxHeartbeats 4000000 in
theorem c_X10_left (x1 x2 : Int) (mem : hMem) : hv_Met 6 0 0 0 yX10_left cX10_left 3 (some FieldType.int) (fun ad _ _ => [.ref (ad 0), .int (hv_I x1), .int (hv_I x2)]) mem (f_X10_left x1 x2 mem) := by
  refine hv_start (by decide +kernel) (fun _ _ _ => Nat.le_of_ble_eq_true rfl) ?_
  intro X hc
  have hc : hv_C X cX10_left 3 RX10 (some FieldType.int) 6 0 0 := hc
  show hv_R X 3 0 0 (hv_QX X 0 0 0) (f_X10_left x1 x2 mem) mem [] [(0, .ref (hv_ad X 0)), (1, .int (hv_I x1)), (2, .int (hv_I x2))] [] 0
  unfold f_X10_left
  refine hv_aload_n hc dX10_left_0 rfl (hv_m 0 rfl) ?_
  refine hv_iload_n hc dX10_left_1 rfl (hv_m 1 rfl) ?_
  refine hv_iload_n hc dX10_left_2 rfl (hv_m 2 rfl) ?_
  refine hv_callVi hc (c_X10_suppose x1 x2 mem) yv_X10_suppose tw_1033 sh_o_0 rfl rfl rfl rfl (Nat.le_of_ble_eq_true rfl) (Nat.le_of_ble_eq_true rfl) (Nat.zero_le _) (Nat.zero_le _) dX10_left_3 (fun r1 m2 => ?_)
  refine hv_if_eq (tgt := 20) hc dX10_left_6 (by decide) ?_ ?_
  · refine hv_bipush hc dX10_left_20 (by decide) ?_
    exact hv_iret hc dX10_left_22
  · refine hv_aload_n hc dX10_left_9 rfl (hv_m 0 rfl) ?_
    refine hv_getR hc fl_X10_46 sh_o_0 rfl dX10_left_10 ?_
    refine hv_iload_n hc dX10_left_13 rfl (hv_m 1 rfl) ?_
    refine hv_callVi hc (c_X0_sizeOf 23 (by decide) x1 m2) yv_X0_sizeOf tw_837 sh_o_23 rfl rfl rfl rfl (Nat.le_of_ble_eq_true rfl) (Nat.le_of_ble_eq_true rfl) (Nat.zero_le _) (Nat.zero_le _) dX10_left_14 (fun r3 m4 => ?_)
    refine hv_goto (tgt := 22) hc dX10_left_17 (by decide) ?_
    exact hv_iret hc dX10_left_22
def f_X10_done (x1 x2 : Int) (mem : hMem) : hRs := hv_b (f_X10_has x1 mem) (fun r1 m2 => hv_eq r1 0 (hv_ret ((-2)) m2) (hv_b (f_X5_work 20 x1 (m2 0 11) m2) (fun r3 m4 => hv_tsw x2 0 [hv_b (f_X5_last m4) (fun r5 m6 => hv_ret r5 m6), hv_b (f_X5_late m4) (fun r7 m8 => hv_ret r7 m8), hv_b (f_X5_lateTogether m4) (fun r9 m10 => hv_ret r9 m10), hv_b (f_X5_lateMost m4) (fun r11 m12 => hv_ret r11 m12)] (hv_ret ((-2)) m4))))
set_option maxRecDepth 100000 in
set_option maxHeartbeats 4000000 in
theorem c_X10_done (x1 x2 : Int) (mem : hMem) : hv_Met 4 0 0 0 yX10_done cX10_done 3 (some FieldType.int) (fun ad _ _ => [.ref (ad 0), .int (hv_I x1), .int (hv_I x2)]) mem (f_X10_done x1 x2 mem) := by
  refine hv_start (by decide +kernel) (fun _ _ _ => Nat.le_of_ble_eq_true rfl) ?_
  intro X hc
  have hc : hv_C X cX10_done 3 RX10 (some FieldType.int) 4 0 0 := hc
  show hv_R X 3 0 0 (hv_QX X 0 0 0) (f_X10_done x1 x2 mem) mem [] [(0, .ref (hv_ad X 0)), (1, .int (hv_I x1)), (2, .int (hv_I x2))] [] 0
  unfold f_X10_done
  refine hv_aload_n hc dX10_done_0 rfl (hv_m 0 rfl) ?_
  refine hv_iload_n hc dX10_done_1 rfl (hv_m 1 rfl) ?_
  refine hv_callVi hc (c_X10_has x1 mem) yv_X10_has tw_803 sh_o_0 rfl rfl rfl rfl (Nat.le_of_ble_eq_true rfl) (Nat.le_of_ble_eq_true rfl) (Nat.zero_le _) (Nat.zero_le _) dX10_done_2 (fun r1 m2 => ?_)
  refine hv_if_ne (tgt := 11) hc dX10_done_5 (by decide) ?_ ?_
  · refine hv_aload_n hc dX10_done_11 rfl (hv_m 0 rfl) ?_
    refine hv_getR hc fl_X10_73 sh_o_0 rfl dX10_done_12 ?_
    refine hv_aload_n hc dX10_done_15 rfl (hv_m 0 rfl) ?_
    refine hv_getR hc fl_X10_42 sh_o_0 rfl dX10_done_16 ?_
    refine hv_iload_n hc dX10_done_19 rfl (hv_m 1 rfl) ?_
    refine hv_aload_n hc dX10_done_20 rfl (hv_m 0 rfl) ?_
    refine hv_getI hc fl_X10_104 sh_o_0 rfl dX10_done_21 ?_
    refine hv_callVv hc (c_X5_work 20 (by decide) x1 (m2 0 11) m2) yv_X5_work tw_1046 sh_o_61 rfl rfl rfl rfl (Nat.le_of_ble_eq_true rfl) (Nat.le_of_ble_eq_true rfl) (Nat.zero_le _) (Nat.zero_le _) dX10_done_24 (fun r3 m4 => ?_)
    refine hv_iload_n hc dX10_done_27 rfl (hv_m 2 rfl) ?_
    refine hv_tswitch (tgts := [60, 68, 76, 84]) (tD := 92) hc dX10_done_28 rfl (by decide) (by decide) ⟨?_, ?_, ?_, ?_, trivial⟩ ?_
    · refine hv_aload_n hc dX10_done_60 rfl (hv_m 0 rfl) ?_
      refine hv_getR hc fl_X10_73 sh_o_0 rfl dX10_done_61 ?_
      refine hv_callVi hc (c_X5_last m4) yv_X5_last tw_1065 sh_o_61 rfl rfl rfl rfl (Nat.le_of_ble_eq_true rfl) (Nat.le_of_ble_eq_true rfl) (Nat.zero_le _) (Nat.zero_le _) dX10_done_64 (fun r5 m6 => ?_)
      exact hv_iret hc dX10_done_67
    · refine hv_aload_n hc dX10_done_68 rfl (hv_m 0 rfl) ?_
      refine hv_getR hc fl_X10_73 sh_o_0 rfl dX10_done_69 ?_
      refine hv_callVi hc (c_X5_late m4) yv_X5_late tw_1069 sh_o_61 rfl rfl rfl rfl (Nat.le_of_ble_eq_true rfl) (Nat.le_of_ble_eq_true rfl) (Nat.zero_le _) (Nat.zero_le _) dX10_done_72 (fun r7 m8 => ?_)
      exact hv_iret hc dX10_done_75
    · refine hv_aload_n hc dX10_done_76 rfl (hv_m 0 rfl) ?_
      refine hv_getR hc fl_X10_73 sh_o_0 rfl dX10_done_77 ?_
      refine hv_callVi hc (c_X5_lateTogether m4) yv_X5_lateTogether tw_1073 sh_o_61 rfl rfl rfl rfl (Nat.le_of_ble_eq_true rfl) (Nat.le_of_ble_eq_true rfl) (Nat.zero_le _) (Nat.zero_le _) dX10_done_80 (fun r9 m10 => ?_)
      exact hv_iret hc dX10_done_83
    · refine hv_aload_n hc dX10_done_84 rfl (hv_m 0 rfl) ?_
      refine hv_getR hc fl_X10_73 sh_o_0 rfl dX10_done_85 ?_
      refine hv_callVi hc (c_X5_lateMost m4) yv_X5_lateMost tw_1077 sh_o_61 rfl rfl rfl rfl (Nat.le_of_ble_eq_true rfl) (Nat.le_of_ble_eq_true rfl) (Nat.zero_le _) (Nat.zero_le _) dX10_done_88 (fun r11 m12 => ?_)
      exact hv_iret hc dX10_done_91
    · refine hv_bipush hc dX10_done_92 (by decide) ?_
      exact hv_iret hc dX10_done_94
  · refine hv_bipush hc dX10_done_8 (by decide) ?_
    exact hv_iret hc dX10_done_10
def f_X10_hand (x1 x2 : Int) (mem : hMem) : hRs := hv_b (f_X10_has x1 mem) (fun r1 m2 => hv_eq r1 0 (hv_ret ((-2)) m2) (hv_lt x2 0 (hv_ret ((-2)) m2) (hv_b (f_X5_work 20 x1 (m2 0 11) m2) (fun r3 m4 => hv_b (f_X5_handOf x2 m4) (fun r5 m6 => hv_ret r5 m6)))))
set_option maxRecDepth 100000 in
set_option maxHeartbeats 4000000 in
theorem c_X10_hand (x1 x2 : Int) (mem : hMem) : hv_Met 4 0 0 0 yX10_hand cX10_hand 3 (some FieldType.int) (fun ad _ _ => [.ref (ad 0), .int (hv_I x1), .int (hv_I x2)]) mem (f_X10_hand x1 x2 mem) := by
  refine hv_start (by decide +kernel) (fun _ _ _ => Nat.le_of_ble_eq_true rfl) ?_
  intro X hc
  have hc : hv_C X cX10_hand 3 RX10 (some FieldType.int) 4 0 0 := hc
  show hv_R X 3 0 0 (hv_QX X 0 0 0) (f_X10_hand x1 x2 mem) mem [] [(0, .ref (hv_ad X 0)), (1, .int (hv_I x1)), (2, .int (hv_I x2))] [] 0
  unfold f_X10_hand
  refine hv_aload_n hc dX10_hand_0 rfl (hv_m 0 rfl) ?_
  refine hv_iload_n hc dX10_hand_1 rfl (hv_m 1 rfl) ?_
  refine hv_callVi hc (c_X10_has x1 mem) yv_X10_has tw_803 sh_o_0 rfl rfl rfl rfl (Nat.le_of_ble_eq_true rfl) (Nat.le_of_ble_eq_true rfl) (Nat.zero_le _) (Nat.zero_le _) dX10_hand_2 (fun r1 m2 => ?_)
  refine hv_if_eq (tgt := 12) hc dX10_hand_5 (by decide) ?_ ?_
  · refine hv_bipush hc dX10_hand_12 (by decide) ?_
    exact hv_iret hc dX10_hand_14
  · refine hv_iload_n hc dX10_hand_8 rfl (hv_m 2 rfl) ?_
    refine hv_if_ge (tgt := 15) hc dX10_hand_9 (by decide) ?_ ?_
    · refine hv_aload_n hc dX10_hand_15 rfl (hv_m 0 rfl) ?_
      refine hv_getR hc fl_X10_73 sh_o_0 rfl dX10_hand_16 ?_
      refine hv_aload_n hc dX10_hand_19 rfl (hv_m 0 rfl) ?_
      refine hv_getR hc fl_X10_42 sh_o_0 rfl dX10_hand_20 ?_
      refine hv_iload_n hc dX10_hand_23 rfl (hv_m 1 rfl) ?_
      refine hv_aload_n hc dX10_hand_24 rfl (hv_m 0 rfl) ?_
      refine hv_getI hc fl_X10_104 sh_o_0 rfl dX10_hand_25 ?_
      refine hv_callVv hc (c_X5_work 20 (by decide) x1 (m2 0 11) m2) yv_X5_work tw_1046 sh_o_61 rfl rfl rfl rfl (Nat.le_of_ble_eq_true rfl) (Nat.le_of_ble_eq_true rfl) (Nat.zero_le _) (Nat.zero_le _) dX10_hand_28 (fun r3 m4 => ?_)
      refine hv_aload_n hc dX10_hand_31 rfl (hv_m 0 rfl) ?_
      refine hv_getR hc fl_X10_73 sh_o_0 rfl dX10_hand_32 ?_
      refine hv_iload_n hc dX10_hand_35 rfl (hv_m 2 rfl) ?_
      refine hv_callVi hc (c_X5_handOf x2 m4) yv_X5_handOf tw_1085 sh_o_61 rfl rfl rfl rfl (Nat.le_of_ble_eq_true rfl) (Nat.le_of_ble_eq_true rfl) (Nat.zero_le _) (Nat.zero_le _) dX10_hand_36 (fun r5 m6 => ?_)
      exact hv_iret hc dX10_hand_39
    · refine hv_bipush hc dX10_hand_12 (by decide) ?_
      exact hv_iret hc dX10_hand_14
def f_X10_ends (x1 x2 : Int) (mem : hMem) : hRs := hv_b (f_X10_has x1 mem) (fun r1 m2 => hv_eq r1 0 (hv_ret ((-2)) m2) (hv_lt x2 0 (hv_ret ((-2)) m2) (hv_b (f_X5_work 20 x1 (m2 0 11) m2) (fun r3 m4 => hv_b (f_X5_endOf x2 m4) (fun r5 m6 => hv_ret r5 m6)))))
set_option maxRecDepth 100000 in
set_option maxHeartbeats 4000000 in
theorem c_X10_ends (x1 x2 : Int) (mem : hMem) : hv_Met 4 0 0 0 yX10_ends cX10_ends 3 (some FieldType.int) (fun ad _ _ => [.ref (ad 0), .int (hv_I x1), .int (hv_I x2)]) mem (f_X10_ends x1 x2 mem) := by
  refine hv_start (by decide +kernel) (fun _ _ _ => Nat.le_of_ble_eq_true rfl) ?_
  intro X hc
  have hc : hv_C X cX10_ends 3 RX10 (some FieldType.int) 4 0 0 := hc
  show hv_R X 3 0 0 (hv_QX X 0 0 0) (f_X10_ends x1 x2 mem) mem [] [(0, .ref (hv_ad X 0)), (1, .int (hv_I x1)), (2, .int (hv_I x2))] [] 0
  unfold f_X10_ends
  refine hv_aload_n hc dX10_ends_0 rfl (hv_m 0 rfl) ?_
  refine hv_iload_n hc dX10_ends_1 rfl (hv_m 1 rfl) ?_
  refine hv_callVi hc (c_X10_has x1 mem) yv_X10_has tw_803 sh_o_0 rfl rfl rfl rfl (Nat.le_of_ble_eq_true rfl) (Nat.le_of_ble_eq_true rfl) (Nat.zero_le _) (Nat.zero_le _) dX10_ends_2 (fun r1 m2 => ?_)
  refine hv_if_eq (tgt := 12) hc dX10_ends_5 (by decide) ?_ ?_
  · refine hv_bipush hc dX10_ends_12 (by decide) ?_
    exact hv_iret hc dX10_ends_14
  · refine hv_iload_n hc dX10_ends_8 rfl (hv_m 2 rfl) ?_
    refine hv_if_ge (tgt := 15) hc dX10_ends_9 (by decide) ?_ ?_
    · refine hv_aload_n hc dX10_ends_15 rfl (hv_m 0 rfl) ?_
      refine hv_getR hc fl_X10_73 sh_o_0 rfl dX10_ends_16 ?_
      refine hv_aload_n hc dX10_ends_19 rfl (hv_m 0 rfl) ?_
      refine hv_getR hc fl_X10_42 sh_o_0 rfl dX10_ends_20 ?_
      refine hv_iload_n hc dX10_ends_23 rfl (hv_m 1 rfl) ?_
      refine hv_aload_n hc dX10_ends_24 rfl (hv_m 0 rfl) ?_
      refine hv_getI hc fl_X10_104 sh_o_0 rfl dX10_ends_25 ?_
      refine hv_callVv hc (c_X5_work 20 (by decide) x1 (m2 0 11) m2) yv_X5_work tw_1046 sh_o_61 rfl rfl rfl rfl (Nat.le_of_ble_eq_true rfl) (Nat.le_of_ble_eq_true rfl) (Nat.zero_le _) (Nat.zero_le _) dX10_ends_28 (fun r3 m4 => ?_)
      refine hv_aload_n hc dX10_ends_31 rfl (hv_m 0 rfl) ?_
      refine hv_getR hc fl_X10_73 sh_o_0 rfl dX10_ends_32 ?_
      refine hv_iload_n hc dX10_ends_35 rfl (hv_m 2 rfl) ?_
      refine hv_callVi hc (c_X5_endOf x2 m4) yv_X5_endOf tw_1093 sh_o_61 rfl rfl rfl rfl (Nat.le_of_ble_eq_true rfl) (Nat.le_of_ble_eq_true rfl) (Nat.zero_le _) (Nat.zero_le _) dX10_ends_36 (fun r5 m6 => ?_)
      exact hv_iret hc dX10_ends_39
    · refine hv_bipush hc dX10_ends_12 (by decide) ?_
      exact hv_iret hc dX10_ends_14
