def B_X10_hands_13 (R13 : Int → Int → hMem → hRs) (x1 x2 : Int) (mem : hMem) : hRs := hv_lt 8 x2 (hv_ret ((-1)) mem) (hv_b (f_X5_work 20 x1 x2 mem) (fun r1 m2 => hv_b (f_X5_late m2) (fun r3 m4 => hv_eq r3 0 (hv_ret x2 m4) (hv_set (x2 + 1) (fun y5 => R13 x1 y5 m4)))))
def L_X10_hands_13 : Nat → Int → Int → hMem → hRs
  | 0 => fun _ _ _ => none
  | n + 1 => B_X10_hands_13 (L_X10_hands_13 n)
set_option maxRecDepth 100000 in
theorem gB_X10_hands_13 {X : hv_X} (hc : hv_C X cX10_hands 3 RX10 (some FieldType.int) 4 0 0) (R13 : Int → Int → hMem → hRs) (hR13 : ∀ (x1 x2 : Int) (mem : hMem), hv_R X 3 0 0 (hv_QX X 0 0 0) (R13 x1 x2 mem) mem [] [(0, .ref (hv_ad X 0)), (1, .int (hv_I x1)), (2, .int (hv_I x2))] [] 13) (x1 x2 : Int) (mem : hMem) : hv_R X 3 0 0 (hv_QX X 0 0 0) (B_X10_hands_13 R13 x1 x2 mem) mem [] [(0, .ref (hv_ad X 0)), (1, .int (hv_I x1)), (2, .int (hv_I x2))] [] 13 := by
  unfold B_X10_hands_13
  refine hv_iload_n hc dX10_hands_13 rfl (hv_m 2 rfl) ?_
  refine hv_bipush hc dX10_hands_14 (by decide) ?_
  refine hv_icmp_gt (tgt := 50) hc dX10_hands_16 (by decide) ?_ ?_
  · refine hv_iconst hc dX10_hands_50 ?_
    exact hv_iret hc dX10_hands_51
  · refine hv_aload_n hc dX10_hands_19 rfl (hv_m 0 rfl) ?_
    refine hv_getR hc fl_X10_73 sh_o_0 rfl dX10_hands_20 ?_
    refine hv_aload_n hc dX10_hands_23 rfl (hv_m 0 rfl) ?_
    refine hv_getR hc fl_X10_42 sh_o_0 rfl dX10_hands_24 ?_
    refine hv_iload_n hc dX10_hands_27 rfl (hv_m 1 rfl) ?_
    refine hv_iload_n hc dX10_hands_28 rfl (hv_m 2 rfl) ?_
    refine hv_callVv hc (c_X5_work 20 (by decide) x1 x2 mem) yv_X5_work tw_1046 sh_o_61 rfl rfl rfl rfl (Nat.le_of_ble_eq_true rfl) (Nat.le_of_ble_eq_true rfl) (Nat.zero_le _) (Nat.zero_le _) dX10_hands_29 (fun r1 m2 => ?_)
    refine hv_aload_n hc dX10_hands_32 rfl (hv_m 0 rfl) ?_
    refine hv_getR hc fl_X10_73 sh_o_0 rfl dX10_hands_33 ?_
    refine hv_callVi hc (c_X5_late m2) yv_X5_late tw_1069 sh_o_61 rfl rfl rfl rfl (Nat.le_of_ble_eq_true rfl) (Nat.le_of_ble_eq_true rfl) (Nat.zero_le _) (Nat.zero_le _) dX10_hands_36 (fun r3 m4 => ?_)
    refine hv_if_ne (tgt := 44) hc dX10_hands_39 (by decide) ?_ ?_
    · refine hv_iinc_s (lvf := fun y5 => [(2, .int (hv_I y5)), (0, .ref (hv_ad X 0)), (1, .int (hv_I x1))]) hc dX10_hands_44 (by decide) (hv_m 2 rfl) (fun _ => rfl) (fun y5 => ?_)
      refine hv_goto (tgt := 13) hc dX10_hands_47 (by decide) ?_
      exact hv_pick [1, 2, 0] rfl (hR13 x1 y5 m4)
    · refine hv_iload_n hc dX10_hands_42 rfl (hv_m 2 rfl) ?_
      exact hv_iret hc dX10_hands_43
theorem g_X10_hands_13 {X : hv_X} (hc : hv_C X cX10_hands 3 RX10 (some FieldType.int) 4 0 0) : ∀ (n : Nat) (x1 x2 : Int) (mem : hMem), hv_R X 3 0 0 (hv_QX X 0 0 0) (L_X10_hands_13 n x1 x2 mem) mem [] [(0, .ref (hv_ad X 0)), (1, .int (hv_I x1)), (2, .int (hv_I x2))] [] 13 := by
  intro n
  induction n with
  | zero => intros; exact hv_none
  | succ n ih => exact gB_X10_hands_13 hc _ ih
def f_X10_hands (x1 : Int) (mem : hMem) : hRs := hv_b (f_X10_has x1 mem) (fun r1 m2 => hv_eq r1 0 (hv_ret ((-2)) m2) (L_X10_hands_13 hv_FU x1 1 m2))
set_option maxRecDepth 100000 in
set_option maxHeartbeats 4000000 in
theorem c_X10_hands (x1 : Int) (mem : hMem) : hv_Met 4 0 0 0 yX10_hands cX10_hands 3 (some FieldType.int) (fun ad _ _ => [.ref (ad 0), .int (hv_I x1)]) mem (f_X10_hands x1 mem) := by
  refine hv_start (by decide +kernel) (fun _ _ _ => Nat.le_of_ble_eq_true rfl) ?_
  intro X hc
  have hc : hv_C X cX10_hands 3 RX10 (some FieldType.int) 4 0 0 := hc
  show hv_R X 3 0 0 (hv_QX X 0 0 0) (f_X10_hands x1 mem) mem [] [(0, .ref (hv_ad X 0)), (1, .int (hv_I x1))] [] 0
  unfold f_X10_hands
  refine hv_aload_n hc dX10_hands_0 rfl (hv_m 0 rfl) ?_
  refine hv_iload_n hc dX10_hands_1 rfl (hv_m 1 rfl) ?_
  refine hv_callVi hc (c_X10_has x1 mem) yv_X10_has tw_803 sh_o_0 rfl rfl rfl rfl (Nat.le_of_ble_eq_true rfl) (Nat.le_of_ble_eq_true rfl) (Nat.zero_le _) (Nat.zero_le _) dX10_hands_2 (fun r1 m2 => ?_)
  refine hv_if_ne (tgt := 11) hc dX10_hands_5 (by decide) ?_ ?_
  · refine hv_iconst hc dX10_hands_11 ?_
    refine hv_istore_n (lv' := [(2, .int (hv_I 1)), (0, .ref (hv_ad X 0)), (1, .int (hv_I x1))]) hc dX10_hands_12 rfl (by decide) rfl ?_
    exact hv_pick [1, 2, 0] rfl (g_X10_hands_13 hc hv_FU x1 1 m2)
  · refine hv_bipush hc dX10_hands_8 (by decide) ?_
    exact hv_iret hc dX10_hands_10
def f_X10_puts (x1 x2 x3 : Int) (mem : hMem) : hRs := hv_b (f_X10_has x1 mem) (fun r1 m2 => hv_eq r1 0 (hv_ret ((-2)) m2) (hv_lt x2 0 (hv_ret ((-2)) m2) (hv_lt 999 x2 (hv_ret ((-2)) m2) (hv_lt x3 1 (hv_ret ((-2)) m2) (hv_lt 99 x3 (hv_ret ((-2)) m2) (hv_b (f_X6_versions m2) (fun r3 m4 => hv_lt r3 30 (hv_b (f_X0_sizeOf 20 x1 m4) (fun r5 m6 => hv_lt r5 24 (hv_b (f_X10_grow 1 x1 ((-1)) x2 x3 m6) (fun r7 m8 => hv_ret r7 m8)) (hv_ret ((-3)) m6))) (hv_ret ((-5)) m4))))))))
set_option maxRecDepth 100000 in
set_option maxHeartbeats 4000000 in
theorem c_X10_puts (x1 x2 x3 : Int) (mem : hMem) : hv_Met 7 0 0 0 yX10_puts cX10_puts 4 (some FieldType.int) (fun ad _ _ => [.ref (ad 0), .int (hv_I x1), .int (hv_I x2), .int (hv_I x3)]) mem (f_X10_puts x1 x2 x3 mem) := by
  refine hv_start (by decide +kernel) (fun _ _ _ => Nat.le_of_ble_eq_true rfl) ?_
  intro X hc
  have hc : hv_C X cX10_puts 4 RX10 (some FieldType.int) 7 0 0 := hc
  show hv_R X 4 0 0 (hv_QX X 0 0 0) (f_X10_puts x1 x2 x3 mem) mem [] [(0, .ref (hv_ad X 0)), (1, .int (hv_I x1)), (2, .int (hv_I x2)), (3, .int (hv_I x3))] [] 0
  unfold f_X10_puts
  refine hv_aload_n hc dX10_puts_0 rfl (hv_m 0 rfl) ?_
  refine hv_iload_n hc dX10_puts_1 rfl (hv_m 1 rfl) ?_
  refine hv_callVi hc (c_X10_has x1 mem) yv_X10_has tw_803 sh_o_0 rfl rfl rfl rfl (Nat.le_of_ble_eq_true rfl) (Nat.le_of_ble_eq_true rfl) (Nat.zero_le _) (Nat.zero_le _) dX10_puts_2 (fun r1 m2 => ?_)
  refine hv_if_eq (tgt := 30) hc dX10_puts_5 (by decide) ?_ ?_
  · refine hv_bipush hc dX10_puts_30 (by decide) ?_
    exact hv_iret hc dX10_puts_32
  · refine hv_iload_n hc dX10_puts_8 rfl (hv_m 2 rfl) ?_
    refine hv_if_lt (tgt := 30) hc dX10_puts_9 (by decide) ?_ ?_
    · refine hv_bipush hc dX10_puts_30 (by decide) ?_
      exact hv_iret hc dX10_puts_32
    · refine hv_iload_n hc dX10_puts_12 rfl (hv_m 2 rfl) ?_
      refine hv_sipush hc dX10_puts_13 (by decide) ?_
      refine hv_icmp_gt (tgt := 30) hc dX10_puts_16 (by decide) ?_ ?_
      · refine hv_bipush hc dX10_puts_30 (by decide) ?_
        exact hv_iret hc dX10_puts_32
      · refine hv_iload_n hc dX10_puts_19 rfl (hv_m 3 rfl) ?_
        refine hv_iconst hc dX10_puts_20 ?_
        refine hv_icmp_lt (tgt := 30) hc dX10_puts_21 (by decide) ?_ ?_
        · refine hv_bipush hc dX10_puts_30 (by decide) ?_
          exact hv_iret hc dX10_puts_32
        · refine hv_iload_n hc dX10_puts_24 rfl (hv_m 3 rfl) ?_
          refine hv_bipush hc dX10_puts_25 (by decide) ?_
          refine hv_icmp_le (tgt := 33) hc dX10_puts_27 (by decide) ?_ ?_
          · refine hv_aload_n hc dX10_puts_33 rfl (hv_m 0 rfl) ?_
            refine hv_getR hc fl_X10_35 sh_o_0 rfl dX10_puts_34 ?_
            refine hv_callVi hc (c_X6_versions m2) yv_X6_versions tw_602 sh_o_14 rfl rfl rfl rfl (Nat.le_of_ble_eq_true rfl) (Nat.le_of_ble_eq_true rfl) (Nat.zero_le _) (Nat.zero_le _) dX10_puts_37 (fun r3 m4 => ?_)
            refine hv_bipush hc dX10_puts_40 (by decide) ?_
            refine hv_icmp_lt (tgt := 48) hc dX10_puts_42 (by decide) ?_ ?_
            · refine hv_aload_n hc dX10_puts_48 rfl (hv_m 0 rfl) ?_
              refine hv_getR hc fl_X10_42 sh_o_0 rfl dX10_puts_49 ?_
              refine hv_iload_n hc dX10_puts_52 rfl (hv_m 1 rfl) ?_
              refine hv_callVi hc (c_X0_sizeOf 20 (by decide) x1 m4) yv_X0_sizeOf tw_837 sh_o_20 rfl rfl rfl rfl (Nat.le_of_ble_eq_true rfl) (Nat.le_of_ble_eq_true rfl) (Nat.zero_le _) (Nat.zero_le _) dX10_puts_53 (fun r5 m6 => ?_)
              refine hv_bipush hc dX10_puts_56 (by decide) ?_
              refine hv_icmp_lt (tgt := 64) hc dX10_puts_58 (by decide) ?_ ?_
              · refine hv_aload_n hc dX10_puts_64 rfl (hv_m 0 rfl) ?_
                refine hv_iconst hc dX10_puts_65 ?_
                refine hv_iload_n hc dX10_puts_66 rfl (hv_m 1 rfl) ?_
                refine hv_iconst hc dX10_puts_67 ?_
                refine hv_iload_n hc dX10_puts_68 rfl (hv_m 2 rfl) ?_
                refine hv_iload_n hc dX10_puts_69 rfl (hv_m 3 rfl) ?_
                refine hv_callVi hc (c_X10_grow 1 x1 ((-1)) x2 x3 m6) yv_X10_grow tw_598 sh_o_0 rfl rfl rfl rfl (Nat.le_of_ble_eq_true rfl) (Nat.le_of_ble_eq_true rfl) (Nat.zero_le _) (Nat.zero_le _) dX10_puts_70 (fun r7 m8 => ?_)
                exact hv_iret hc dX10_puts_73
              · refine hv_bipush hc dX10_puts_61 (by decide) ?_
                exact hv_iret hc dX10_puts_63
            · refine hv_bipush hc dX10_puts_45 (by decide) ?_
              exact hv_iret hc dX10_puts_47
          · refine hv_bipush hc dX10_puts_30 (by decide) ?_
            exact hv_iret hc dX10_puts_32
def f_X10_joins (x1 x2 : Int) (mem : hMem) : hRs := hv_b (f_X10_has x1 mem) (fun r1 m2 => hv_eq r1 0 (hv_ret ((-2)) m2) (hv_b (f_X10_has x2 m2) (fun r3 m4 => hv_eq r3 0 (hv_ret ((-2)) m4) (hv_b (f_X6_versions m4) (fun r5 m6 => hv_lt r5 30 (hv_b (f_X0_sizeOf 20 x1 m6) (fun r7 m8 => hv_b (f_X0_sizeOf 20 x2 m8) (fun r9 m10 => hv_lt 24 (r7 + r9) (hv_ret ((-3)) m10) (hv_b (f_X10_grow 2 x1 x2 0 0 m10) (fun r11 m12 => hv_ret r11 m12))))) (hv_ret ((-5)) m6))))))
set_option maxRecDepth 100000 in
set_option maxHeartbeats 4000000 in
theorem c_X10_joins (x1 x2 : Int) (mem : hMem) : hv_Met 7 0 0 0 yX10_joins cX10_joins 3 (some FieldType.int) (fun ad _ _ => [.ref (ad 0), .int (hv_I x1), .int (hv_I x2)]) mem (f_X10_joins x1 x2 mem) := by
  refine hv_start (by decide +kernel) (fun _ _ _ => Nat.le_of_ble_eq_true rfl) ?_
  intro X hc
  have hc : hv_C X cX10_joins 3 RX10 (some FieldType.int) 7 0 0 := hc
  show hv_R X 3 0 0 (hv_QX X 0 0 0) (f_X10_joins x1 x2 mem) mem [] [(0, .ref (hv_ad X 0)), (1, .int (hv_I x1)), (2, .int (hv_I x2))] [] 0
  unfold f_X10_joins
  refine hv_aload_n hc dX10_joins_0 rfl (hv_m 0 rfl) ?_
  refine hv_iload_n hc dX10_joins_1 rfl (hv_m 1 rfl) ?_
  refine hv_callVi hc (c_X10_has x1 mem) yv_X10_has tw_803 sh_o_0 rfl rfl rfl rfl (Nat.le_of_ble_eq_true rfl) (Nat.le_of_ble_eq_true rfl) (Nat.zero_le _) (Nat.zero_le _) dX10_joins_2 (fun r1 m2 => ?_)
  refine hv_if_eq (tgt := 16) hc dX10_joins_5 (by decide) ?_ ?_
  · refine hv_bipush hc dX10_joins_16 (by decide) ?_
    exact hv_iret hc dX10_joins_18
  · refine hv_aload_n hc dX10_joins_8 rfl (hv_m 0 rfl) ?_
    refine hv_iload_n hc dX10_joins_9 rfl (hv_m 2 rfl) ?_
    refine hv_callVi hc (c_X10_has x2 m2) yv_X10_has tw_803 sh_o_0 rfl rfl rfl rfl (Nat.le_of_ble_eq_true rfl) (Nat.le_of_ble_eq_true rfl) (Nat.zero_le _) (Nat.zero_le _) dX10_joins_10 (fun r3 m4 => ?_)
    refine hv_if_ne (tgt := 19) hc dX10_joins_13 (by decide) ?_ ?_
    · refine hv_aload_n hc dX10_joins_19 rfl (hv_m 0 rfl) ?_
      refine hv_getR hc fl_X10_35 sh_o_0 rfl dX10_joins_20 ?_
      refine hv_callVi hc (c_X6_versions m4) yv_X6_versions tw_602 sh_o_14 rfl rfl rfl rfl (Nat.le_of_ble_eq_true rfl) (Nat.le_of_ble_eq_true rfl) (Nat.zero_le _) (Nat.zero_le _) dX10_joins_23 (fun r5 m6 => ?_)
      refine hv_bipush hc dX10_joins_26 (by decide) ?_
      refine hv_icmp_lt (tgt := 34) hc dX10_joins_28 (by decide) ?_ ?_
      · refine hv_aload_n hc dX10_joins_34 rfl (hv_m 0 rfl) ?_
        refine hv_getR hc fl_X10_42 sh_o_0 rfl dX10_joins_35 ?_
        refine hv_iload_n hc dX10_joins_38 rfl (hv_m 1 rfl) ?_
        refine hv_callVi hc (c_X0_sizeOf 20 (by decide) x1 m6) yv_X0_sizeOf tw_837 sh_o_20 rfl rfl rfl rfl (Nat.le_of_ble_eq_true rfl) (Nat.le_of_ble_eq_true rfl) (Nat.zero_le _) (Nat.zero_le _) dX10_joins_39 (fun r7 m8 => ?_)
        refine hv_aload_n hc dX10_joins_42 rfl (hv_m 0 rfl) ?_
        refine hv_getR hc fl_X10_42 sh_o_0 rfl dX10_joins_43 ?_
        refine hv_iload_n hc dX10_joins_46 rfl (hv_m 2 rfl) ?_
        refine hv_callVi hc (c_X0_sizeOf 20 (by decide) x2 m8) yv_X0_sizeOf tw_837 sh_o_20 rfl rfl rfl rfl (Nat.le_of_ble_eq_true rfl) (Nat.le_of_ble_eq_true rfl) (Nat.zero_le _) (Nat.zero_le _) dX10_joins_47 (fun r9 m10 => ?_)
        refine hv_iadd hc dX10_joins_50 ?_
        refine hv_bipush hc dX10_joins_51 (by decide) ?_
        refine hv_icmp_le (tgt := 59) hc dX10_joins_53 (by decide) ?_ ?_
        · refine hv_aload_n hc dX10_joins_59 rfl (hv_m 0 rfl) ?_
          refine hv_iconst hc dX10_joins_60 ?_
          refine hv_iload_n hc dX10_joins_61 rfl (hv_m 1 rfl) ?_
          refine hv_iload_n hc dX10_joins_62 rfl (hv_m 2 rfl) ?_
          refine hv_iconst hc dX10_joins_63 ?_
          refine hv_iconst hc dX10_joins_64 ?_
          refine hv_callVi hc (c_X10_grow 2 x1 x2 0 0 m10) yv_X10_grow tw_598 sh_o_0 rfl rfl rfl rfl (Nat.le_of_ble_eq_true rfl) (Nat.le_of_ble_eq_true rfl) (Nat.zero_le _) (Nat.zero_le _) dX10_joins_65 (fun r11 m12 => ?_)
          exact hv_iret hc dX10_joins_68
        · refine hv_bipush hc dX10_joins_56 (by decide) ?_
          exact hv_iret hc dX10_joins_58
      · refine hv_bipush hc dX10_joins_31 (by decide) ?_
        exact hv_iret hc dX10_joins_33
    · refine hv_bipush hc dX10_joins_16 (by decide) ?_
      exact hv_iret hc dX10_joins_18
def f_X10_takes (x1 : Int) (mem : hMem) : hRs := hv_b (f_X10_has x1 mem) (fun r1 m2 => hv_eq r1 0 (hv_ret ((-2)) m2) (hv_b (f_X6_versions m2) (fun r3 m4 => hv_lt r3 30 (hv_b (f_X0_sizeOf 20 x1 m4) (fun r5 m6 => hv_eq r5 0 (hv_ret ((-3)) m6) (hv_b (f_X10_grow 3 x1 ((-1)) 0 0 m6) (fun r7 m8 => hv_ret r7 m8)))) (hv_ret ((-5)) m4))))
set_option maxRecDepth 100000 in
set_option maxHeartbeats 4000000 in
theorem c_X10_takes (x1 : Int) (mem : hMem) : hv_Met 7 0 0 0 yX10_takes cX10_takes 2 (some FieldType.int) (fun ad _ _ => [.ref (ad 0), .int (hv_I x1)]) mem (f_X10_takes x1 mem) := by
  refine hv_start (by decide +kernel) (fun _ _ _ => Nat.le_of_ble_eq_true rfl) ?_
  intro X hc
  have hc : hv_C X cX10_takes 2 RX10 (some FieldType.int) 7 0 0 := hc
  show hv_R X 2 0 0 (hv_QX X 0 0 0) (f_X10_takes x1 mem) mem [] [(0, .ref (hv_ad X 0)), (1, .int (hv_I x1))] [] 0
  unfold f_X10_takes
  refine hv_aload_n hc dX10_takes_0 rfl (hv_m 0 rfl) ?_
  refine hv_iload_n hc dX10_takes_1 rfl (hv_m 1 rfl) ?_
  refine hv_callVi hc (c_X10_has x1 mem) yv_X10_has tw_803 sh_o_0 rfl rfl rfl rfl (Nat.le_of_ble_eq_true rfl) (Nat.le_of_ble_eq_true rfl) (Nat.zero_le _) (Nat.zero_le _) dX10_takes_2 (fun r1 m2 => ?_)
  refine hv_if_ne (tgt := 11) hc dX10_takes_5 (by decide) ?_ ?_
  · refine hv_aload_n hc dX10_takes_11 rfl (hv_m 0 rfl) ?_
    refine hv_getR hc fl_X10_35 sh_o_0 rfl dX10_takes_12 ?_
    refine hv_callVi hc (c_X6_versions m2) yv_X6_versions tw_602 sh_o_14 rfl rfl rfl rfl (Nat.le_of_ble_eq_true rfl) (Nat.le_of_ble_eq_true rfl) (Nat.zero_le _) (Nat.zero_le _) dX10_takes_15 (fun r3 m4 => ?_)
    refine hv_bipush hc dX10_takes_18 (by decide) ?_
    refine hv_icmp_lt (tgt := 26) hc dX10_takes_20 (by decide) ?_ ?_
    · refine hv_aload_n hc dX10_takes_26 rfl (hv_m 0 rfl) ?_
      refine hv_getR hc fl_X10_42 sh_o_0 rfl dX10_takes_27 ?_
      refine hv_iload_n hc dX10_takes_30 rfl (hv_m 1 rfl) ?_
      refine hv_callVi hc (c_X0_sizeOf 20 (by decide) x1 m4) yv_X0_sizeOf tw_837 sh_o_20 rfl rfl rfl rfl (Nat.le_of_ble_eq_true rfl) (Nat.le_of_ble_eq_true rfl) (Nat.zero_le _) (Nat.zero_le _) dX10_takes_31 (fun r5 m6 => ?_)
      refine hv_if_ne (tgt := 40) hc dX10_takes_34 (by decide) ?_ ?_
      · refine hv_aload_n hc dX10_takes_40 rfl (hv_m 0 rfl) ?_
        refine hv_iconst hc dX10_takes_41 ?_
        refine hv_iload_n hc dX10_takes_42 rfl (hv_m 1 rfl) ?_
        refine hv_iconst hc dX10_takes_43 ?_
        refine hv_iconst hc dX10_takes_44 ?_
        refine hv_iconst hc dX10_takes_45 ?_
        refine hv_callVi hc (c_X10_grow 3 x1 ((-1)) 0 0 m6) yv_X10_grow tw_598 sh_o_0 rfl rfl rfl rfl (Nat.le_of_ble_eq_true rfl) (Nat.le_of_ble_eq_true rfl) (Nat.zero_le _) (Nat.zero_le _) dX10_takes_46 (fun r7 m8 => ?_)
        exact hv_iret hc dX10_takes_49
      · refine hv_bipush hc dX10_takes_37 (by decide) ?_
        exact hv_iret hc dX10_takes_39
    · refine hv_bipush hc dX10_takes_23 (by decide) ?_
      exact hv_iret hc dX10_takes_25
  · refine hv_bipush hc dX10_takes_8 (by decide) ?_
    exact hv_iret hc dX10_takes_10
def f_X10_undo (mem : hMem) : hRs := hv_eq (mem 0 12) 0 (hv_ret ((-2)) mem) (hv_b (f_X6_versions mem) (fun r1 m2 => hv_lt (m2 0 13) r1 (hv_b (f_X6_versions m2) (fun r3 m4 => hv_b (f_X10_cutTo (r3 - 1) m4) (fun r5 m6 => hv_b (f_X6_versions m6) (fun r7 m8 => hv_ret (r7 - (m8 0 13)) m8)))) (hv_ret ((-5)) m2)))
set_option maxRecDepth 100000 in
set_option maxHeartbeats 4000000 in
theorem c_X10_undo (mem : hMem) : hv_Met 4 0 0 0 yX10_undo cX10_undo 1 (some FieldType.int) (fun ad _ _ => [.ref (ad 0)]) mem (f_X10_undo mem) := by
  refine hv_start (by decide +kernel) (fun _ _ _ => Nat.le_of_ble_eq_true rfl) ?_
  intro X hc
  have hc : hv_C X cX10_undo 1 RX10 (some FieldType.int) 4 0 0 := hc
  show hv_R X 1 0 0 (hv_QX X 0 0 0) (f_X10_undo mem) mem [] [(0, .ref (hv_ad X 0))] [] 0
  unfold f_X10_undo
  refine hv_aload_n hc dX10_undo_0 rfl (hv_m 0 rfl) ?_
  refine hv_getI hc fl_X10_110 sh_o_0 rfl dX10_undo_1 ?_
  refine hv_if_ne (tgt := 10) hc dX10_undo_4 (by decide) ?_ ?_
  · refine hv_aload_n hc dX10_undo_10 rfl (hv_m 0 rfl) ?_
    refine hv_getR hc fl_X10_35 sh_o_0 rfl dX10_undo_11 ?_
    refine hv_callVi hc (c_X6_versions mem) yv_X6_versions tw_602 sh_o_14 rfl rfl rfl rfl (Nat.le_of_ble_eq_true rfl) (Nat.le_of_ble_eq_true rfl) (Nat.zero_le _) (Nat.zero_le _) dX10_undo_14 (fun r1 m2 => ?_)
    refine hv_aload_n hc dX10_undo_17 rfl (hv_m 0 rfl) ?_
    refine hv_getI hc fl_X10_116 sh_o_0 rfl dX10_undo_18 ?_
    refine hv_icmp_gt (tgt := 27) hc dX10_undo_21 (by decide) ?_ ?_
    · refine hv_aload_n hc dX10_undo_27 rfl (hv_m 0 rfl) ?_
      refine hv_aload_n hc dX10_undo_28 rfl (hv_m 0 rfl) ?_
      refine hv_getR hc fl_X10_35 sh_o_0 rfl dX10_undo_29 ?_
      refine hv_callVi hc (c_X6_versions m2) yv_X6_versions tw_602 sh_o_14 rfl rfl rfl rfl (Nat.le_of_ble_eq_true rfl) (Nat.le_of_ble_eq_true rfl) (Nat.zero_le _) (Nat.zero_le _) dX10_undo_32 (fun r3 m4 => ?_)
      refine hv_iconst hc dX10_undo_35 ?_
      refine hv_isub hc dX10_undo_36 ?_
      refine hv_callVv hc (c_X10_cutTo (r3 - 1) m4) yv_X10_cutTo tw_528 sh_o_0 rfl rfl rfl rfl (Nat.le_of_ble_eq_true rfl) (Nat.le_of_ble_eq_true rfl) (Nat.zero_le _) (Nat.zero_le _) dX10_undo_37 (fun r5 m6 => ?_)
      refine hv_aload_n hc dX10_undo_40 rfl (hv_m 0 rfl) ?_
      refine hv_getR hc fl_X10_35 sh_o_0 rfl dX10_undo_41 ?_
      refine hv_callVi hc (c_X6_versions m6) yv_X6_versions tw_602 sh_o_14 rfl rfl rfl rfl (Nat.le_of_ble_eq_true rfl) (Nat.le_of_ble_eq_true rfl) (Nat.zero_le _) (Nat.zero_le _) dX10_undo_44 (fun r7 m8 => ?_)
      refine hv_aload_n hc dX10_undo_47 rfl (hv_m 0 rfl) ?_
      refine hv_getI hc fl_X10_116 sh_o_0 rfl dX10_undo_48 ?_
      refine hv_isub hc dX10_undo_51 ?_
      exact hv_iret hc dX10_undo_52
    · refine hv_bipush hc dX10_undo_24 (by decide) ?_
      exact hv_iret hc dX10_undo_26
  · refine hv_bipush hc dX10_undo_7 (by decide) ?_
    exact hv_iret hc dX10_undo_9
def f_X10_anew (mem : hMem) : hRs := hv_eq (mem 0 12) 0 (hv_ret ((-2)) mem) (hv_b (f_X6_versions mem) (fun r1 m2 => hv_set (r1 - (m2 0 13)) (fun y3 => hv_b (f_X10_cutTo (m2 0 13) m2) (fun r4 m5 => hv_ret y3 m5))))
set_option maxRecDepth 100000 in
set_option maxHeartbeats 4000000 in
theorem c_X10_anew (mem : hMem) : hv_Met 4 0 0 0 yX10_anew cX10_anew 2 (some FieldType.int) (fun ad _ _ => [.ref (ad 0)]) mem (f_X10_anew mem) := by
  refine hv_start (by decide +kernel) (fun _ _ _ => Nat.le_of_ble_eq_true rfl) ?_
  intro X hc
  have hc : hv_C X cX10_anew 2 RX10 (some FieldType.int) 4 0 0 := hc
  show hv_R X 2 0 0 (hv_QX X 0 0 0) (f_X10_anew mem) mem [] [(0, .ref (hv_ad X 0))] [] 0
  unfold f_X10_anew
  refine hv_aload_n hc dX10_anew_0 rfl (hv_m 0 rfl) ?_
  refine hv_getI hc fl_X10_110 sh_o_0 rfl dX10_anew_1 ?_
  refine hv_if_ne (tgt := 10) hc dX10_anew_4 (by decide) ?_ ?_
  · refine hv_aload_n hc dX10_anew_10 rfl (hv_m 0 rfl) ?_
    refine hv_getR hc fl_X10_35 sh_o_0 rfl dX10_anew_11 ?_
    refine hv_callVi hc (c_X6_versions mem) yv_X6_versions tw_602 sh_o_14 rfl rfl rfl rfl (Nat.le_of_ble_eq_true rfl) (Nat.le_of_ble_eq_true rfl) (Nat.zero_le _) (Nat.zero_le _) dX10_anew_14 (fun r1 m2 => ?_)
    refine hv_aload_n hc dX10_anew_17 rfl (hv_m 0 rfl) ?_
    refine hv_getI hc fl_X10_116 sh_o_0 rfl dX10_anew_18 ?_
    refine hv_isub hc dX10_anew_21 ?_
    refine hv_istore_ns (lvf := fun y3 => [(1, .int (hv_I y3)), (0, .ref (hv_ad X 0))]) hc dX10_anew_22 rfl (by decide) (fun _ => rfl) (fun y3 => ?_)
    refine hv_aload_n hc dX10_anew_23 rfl (hv_m 1 rfl) ?_
    refine hv_aload_n hc dX10_anew_24 rfl (hv_m 1 rfl) ?_
    refine hv_getI hc fl_X10_116 sh_o_0 rfl dX10_anew_25 ?_
    refine hv_callVv hc (c_X10_cutTo (m2 0 13) m2) yv_X10_cutTo tw_528 sh_o_0 rfl rfl rfl rfl (Nat.le_of_ble_eq_true rfl) (Nat.le_of_ble_eq_true rfl) (Nat.zero_le _) (Nat.zero_le _) dX10_anew_28 (fun r4 m5 => ?_)
    refine hv_iload_n hc dX10_anew_31 rfl (hv_m 0 rfl) ?_
    exact hv_iret hc dX10_anew_32
  · refine hv_bipush hc dX10_anew_7 (by decide) ?_
    exact hv_iret hc dX10_anew_9
def f_X11_in (x0 x2 x4 : Int) (mem : hMem) : hRs := hv_lc x0 x2 (hv_lt (hv_cmp x0 x2) 0 (hv_zr 0 mem) (hv_lc x0 x4 (hv_lt 0 (hv_cmp x0 x4) (hv_zr 0 mem) (hv_zr 1 mem))))
set_option maxRecDepth 100000 in
set_option maxHeartbeats 4000000 in
theorem c_X11_in (x0 x2 x4 : Int) (mem : hMem) : hv_Met 0 0 0 0 yX11_in cX11_in 6 (some FieldType.boolean) (fun _ _ _ => [.long (hv_L x0), .long (hv_L x2), .long (hv_L x4)]) mem (f_X11_in x0 x2 x4 mem) := by
  refine hv_start (by decide +kernel) (fun _ _ _ => Nat.le_of_ble_eq_true rfl) ?_
  intro X hc
  have hc : hv_C X cX11_in 6 RX11 (some FieldType.boolean) 0 0 0 := hc
  show hv_R X 6 0 0 (hv_QX X 0 0 0) (f_X11_in x0 x2 x4 mem) mem [] [(0, .long (hv_L x0)), (2, .long (hv_L x2)), (4, .long (hv_L x4))] [] 0
  unfold f_X11_in
  refine hv_lload_n hc dX11_in_0 rfl (hv_m 0 rfl) ?_
  refine hv_lload_n hc dX11_in_1 rfl (hv_m 1 rfl) ?_
  refine hv_lcmp hc dX11_in_2 ?_
  refine hv_if_lt (tgt := 17) hc dX11_in_3 (by decide) ?_ ?_
  · refine hv_iconst hc dX11_in_17 ?_
    exact hv_zret hc dX11_in_18
  · refine hv_lload_n hc dX11_in_6 rfl (hv_m 0 rfl) ?_
    refine hv_lload hc dX11_in_7 (hv_m 2 rfl) ?_
    refine hv_lcmp hc dX11_in_9 ?_
    refine hv_if_gt (tgt := 17) hc dX11_in_10 (by decide) ?_ ?_
    · refine hv_iconst hc dX11_in_17 ?_
      exact hv_zret hc dX11_in_18
    · refine hv_iconst hc dX11_in_13 ?_
      refine hv_goto (tgt := 18) hc dX11_in_14 (by decide) ?_
      exact hv_zret hc dX11_in_18
def B_X11_feed_42 (R42 : Int → (Nat → Int) → hMem → hRs) (x7 : Int) (fE : Nat → Int) (mem : hMem) : hRs := hv_lt x7 20 (hv_nld fE 5 (hv_div x7 4) (fun v2 => hv_ast mem 68 600 ((mem 65 3) + x7) (hv_and (hv_ushr v2 (24 - (8 * (hv_rem x7 4)))) 255) (fun m3 => hv_set (x7 + 1) (fun y4 => R42 y4 fE m3)))) (hv_put mem 65 3 ((mem 65 3) + 20) (fun m1 => hv_ret (m1 65 3) m1))
def L_X11_feed_42 : Nat → Int → (Nat → Int) → hMem → hRs
  | 0 => fun _ _ _ => none
  | n + 1 => B_X11_feed_42 (L_X11_feed_42 n)
set_option maxRecDepth 100000 in
theorem gB_X11_feed_42 {X : hv_X} (hc : hv_C X cX11_feed 8 RX11 (some FieldType.int) 0 1 5) (R42 : Int → (Nat → Int) → hMem → hRs) (hR42 : ∀ (x7 : Int) (qE : Nat) (fE : Nat → Int) (mem : hMem), hv_R X 8 1 5 (hv_QX X 0 1 5) (R42 x7 fE mem) mem [(qE, 5, fE)] [(0, .ref (hv_ad X 65)), (6, .ref qE), (7, .int (hv_I x7))] [] 42) (x7 : Int) (qE : Nat) (fE : Nat → Int) (mem : hMem) : hv_R X 8 1 5 (hv_QX X 0 1 5) (B_X11_feed_42 R42 x7 fE mem) mem [(qE, 5, fE)] [(0, .ref (hv_ad X 65)), (6, .ref qE), (7, .int (hv_I x7))] [] 42 := by
  unfold B_X11_feed_42
  refine hv_iload hc dX11_feed_42 (hv_m 2 rfl) ?_
  refine hv_bipush hc dX11_feed_44 (by decide) ?_
  refine hv_icmp_ge (tgt := 89) hc dX11_feed_46 (by decide) ?_ ?_
  · refine hv_aload_n hc dX11_feed_89 rfl (hv_m 0 rfl) ?_
    refine hv_dup hc dX11_feed_90 rfl ?_
    refine hv_getI hc fl_X11_75 sh_o_65 rfl dX11_feed_91 ?_
    refine hv_bipush hc dX11_feed_94 (by decide) ?_
    refine hv_iadd hc dX11_feed_96 ?_
    refine hv_putI hc fp_X11_75 sh_o_65 rfl dX11_feed_97 (fun m1 => ?_)
    refine hv_aload_n hc dX11_feed_100 rfl (hv_m 0 rfl) ?_
    refine hv_getI hc fl_X11_75 sh_o_65 rfl dX11_feed_101 ?_
    exact hv_iret hc dX11_feed_104
  · refine hv_aload_n hc dX11_feed_49 rfl (hv_m 0 rfl) ?_
    refine hv_getR hc fl_X11_16 sh_o_65 rfl dX11_feed_50 ?_
    refine hv_aload_n hc dX11_feed_53 rfl (hv_m 0 rfl) ?_
    refine hv_getI hc fl_X11_75 sh_o_65 rfl dX11_feed_54 ?_
    refine hv_iload hc dX11_feed_57 (hv_m 2 rfl) ?_
    refine hv_iadd hc dX11_feed_59 ?_
    refine hv_aload hc dX11_feed_60 (hv_m 1 rfl) ?_
    refine hv_iload hc dX11_feed_62 (hv_m 2 rfl) ?_
    refine hv_iconst hc dX11_feed_64 ?_
    refine hv_idiv hc dX11_feed_65 (by decide) ?_
    refine hv_naload hc (Nat.le_of_ble_eq_true rfl) dX11_feed_66 (fun v2 => ?_)
    refine hv_bipush hc dX11_feed_67 (by decide) ?_
    refine hv_bipush hc dX11_feed_69 (by decide) ?_
    refine hv_iload hc dX11_feed_71 (hv_m 2 rfl) ?_
    refine hv_iconst hc dX11_feed_73 ?_
    refine hv_irem hc dX11_feed_74 (by decide) ?_
    refine hv_imul hc dX11_feed_75 ?_
    refine hv_isub hc dX11_feed_76 ?_
    refine hv_iushr hc dX11_feed_77 ?_
    refine hv_sipush hc dX11_feed_78 (by decide) ?_
    refine hv_iand hc dX11_feed_81 ?_
    refine hv_iastore hc sh_a_68 (Nat.le_of_ble_eq_true rfl) dX11_feed_82 (fun m3 => ?_)
    refine hv_iinc_s (lvf := fun y4 => [(7, .int (hv_I y4)), (0, .ref (hv_ad X 65)), (6, .ref qE)]) hc dX11_feed_83 (by decide) (hv_m 2 rfl) (fun _ => rfl) (fun y4 => ?_)
    refine hv_goto (tgt := 42) hc dX11_feed_86 (by decide) ?_
    exact hv_pick [1, 2, 0] rfl (hR42 y4 qE fE m3)
theorem g_X11_feed_42 {X : hv_X} (hc : hv_C X cX11_feed 8 RX11 (some FieldType.int) 0 1 5) : ∀ (n : Nat) (x7 : Int) (qE : Nat) (fE : Nat → Int) (mem : hMem), hv_R X 8 1 5 (hv_QX X 0 1 5) (L_X11_feed_42 n x7 fE mem) mem [(qE, 5, fE)] [(0, .ref (hv_ad X 65)), (6, .ref qE), (7, .int (hv_I x7))] [] 42 := by
  intro n
  induction n with
  | zero => intros; exact hv_none
  | succ n ih => exact gB_X11_feed_42 hc _ ih
def f_X11_feed (x1 x2 x3 x4 x5 : Int) (mem : hMem) : hRs := hv_lt 580 (mem 65 3) (hv_ret ((-1)) mem) (hv_nst (fun _ => 0) 5 0 x1 (fun g2 => hv_nst g2 5 1 x2 (fun g3 => hv_nst g3 5 2 x3 (fun g4 => hv_nst g4 5 3 x4 (fun g5 => hv_nst g5 5 4 x5 (fun g6 => L_X11_feed_42 hv_FU 0 g6 mem))))))
set_option maxRecDepth 100000 in
set_option maxHeartbeats 4000000 in
theorem c_X11_feed (x1 x2 x3 x4 x5 : Int) (mem : hMem) : hv_Met 0 1 5 0 yX11_feed cX11_feed 8 (some FieldType.int) (fun ad _ _ => [.ref (ad 65), .int (hv_I x1), .int (hv_I x2), .int (hv_I x3), .int (hv_I x4), .int (hv_I x5)]) mem (f_X11_feed x1 x2 x3 x4 x5 mem) := by
  refine hv_start (by decide +kernel) (fun _ _ _ => Nat.le_of_ble_eq_true rfl) ?_
  intro X hc
  have hc : hv_C X cX11_feed 8 RX11 (some FieldType.int) 0 1 5 := hc
  show hv_R X 8 0 0 (hv_QX X 0 1 5) (f_X11_feed x1 x2 x3 x4 x5 mem) mem [] [(0, .ref (hv_ad X 65)), (1, .int (hv_I x1)), (2, .int (hv_I x2)), (3, .int (hv_I x3)), (4, .int (hv_I x4)), (5, .int (hv_I x5))] [] 0
  unfold f_X11_feed
  refine hv_aload_n hc dX11_feed_0 rfl (hv_m 0 rfl) ?_
  refine hv_getI hc fl_X11_75 sh_o_65 rfl dX11_feed_1 ?_
  refine hv_sipush hc dX11_feed_4 (by decide) ?_
  refine hv_icmp_le (tgt := 12) hc dX11_feed_7 (by decide) ?_ ?_
  · refine hv_iconst hc dX11_feed_12 ?_
    refine hv_newarr (n := 5) hc rfl tw_40 (by decide) (by decide) (by decide) dX11_feed_13 (fun q1 => ?_)
    refine hv_dup hc dX11_feed_15 rfl ?_
    refine hv_iconst hc dX11_feed_16 ?_
    refine hv_iload_n hc dX11_feed_17 rfl (hv_m 1 rfl) ?_
    refine hv_nastore hc (Nat.le_of_ble_eq_true rfl) dX11_feed_18 (fun g2 => ?_)
    refine hv_dup hc dX11_feed_19 rfl ?_
    refine hv_iconst hc dX11_feed_20 ?_
    refine hv_iload_n hc dX11_feed_21 rfl (hv_m 2 rfl) ?_
    refine hv_nastore hc (Nat.le_of_ble_eq_true rfl) dX11_feed_22 (fun g3 => ?_)
    refine hv_dup hc dX11_feed_23 rfl ?_
    refine hv_iconst hc dX11_feed_24 ?_
    refine hv_iload_n hc dX11_feed_25 rfl (hv_m 3 rfl) ?_
    refine hv_nastore hc (Nat.le_of_ble_eq_true rfl) dX11_feed_26 (fun g4 => ?_)
    refine hv_dup hc dX11_feed_27 rfl ?_
    refine hv_iconst hc dX11_feed_28 ?_
    refine hv_iload hc dX11_feed_29 (hv_m 4 rfl) ?_
    refine hv_nastore hc (Nat.le_of_ble_eq_true rfl) dX11_feed_31 (fun g5 => ?_)
    refine hv_dup hc dX11_feed_32 rfl ?_
    refine hv_iconst hc dX11_feed_33 ?_
    refine hv_iload hc dX11_feed_34 (hv_m 5 rfl) ?_
    refine hv_nastore hc (Nat.le_of_ble_eq_true rfl) dX11_feed_36 (fun g6 => ?_)
    refine hv_astore (lv' := [(6, .ref q1), (0, .ref (hv_ad X 65)), (1, .int (hv_I x1)), (2, .int (hv_I x2)), (3, .int (hv_I x3)), (4, .int (hv_I x4)), (5, .int (hv_I x5))]) hc dX11_feed_37 (by decide) rfl ?_
    refine hv_iconst hc dX11_feed_39 ?_
    refine hv_istore (lv' := [(7, .int (hv_I 0)), (6, .ref q1), (0, .ref (hv_ad X 65)), (1, .int (hv_I x1)), (2, .int (hv_I x2)), (3, .int (hv_I x3)), (4, .int (hv_I x4)), (5, .int (hv_I x5))]) hc dX11_feed_40 (by decide) rfl ?_
    exact hv_pick [2, 1, 0] rfl (g_X11_feed_42 hc hv_FU 0 q1 g6 mem)
  · refine hv_iconst hc dX11_feed_10 ?_
    refine hv_widen (c2 := 1) (s2 := 5) (by decide) (by decide) ?_
    exact hv_iret hc dX11_feed_11
def f_X11_end (x1 : Int) (mem : hMem) : hRs := hv_rg x1 (hv_rg (mem 65 3) (hv_b (f_X11_in x1 0 (mem 65 3) mem) (fun r1 m2 => hv_eq r1 0 (hv_ret ((-1)) m2) (hv_put m2 65 3 x1 (fun m3 => hv_ret x1 m3)))))
set_option maxRecDepth 100000 in
set_option maxHeartbeats 4000000 in
theorem c_X11_end (x1 : Int) (mem : hMem) : hv_Met 1 0 0 0 yX11_end cX11_end 2 (some FieldType.int) (fun ad _ _ => [.ref (ad 65), .int (hv_I x1)]) mem (f_X11_end x1 mem) := by
  refine hv_start (by decide +kernel) (fun _ _ _ => Nat.le_of_ble_eq_true rfl) ?_
  intro X hc
  have hc : hv_C X cX11_end 2 RX11 (some FieldType.int) 1 0 0 := hc
  show hv_R X 2 0 0 (hv_QX X 0 0 0) (f_X11_end x1 mem) mem [] [(0, .ref (hv_ad X 65)), (1, .int (hv_I x1))] [] 0
  unfold f_X11_end
  refine hv_iload_n hc dX11_end_0 rfl (hv_m 1 rfl) ?_
  refine hv_i2l hc dX11_end_1 ?_
  refine hv_lconst (k := 0) hc dX11_end_2 (by decide) ?_
  refine hv_aload_n hc dX11_end_3 rfl (hv_m 0 rfl) ?_
  refine hv_getI hc fl_X11_75 sh_o_65 rfl dX11_end_4 ?_
  refine hv_i2l hc dX11_end_7 ?_
  refine hv_callSi hc (c_X11_in x1 0 (mem 65 3) mem) ys_X11_in tw_1233 rfl rfl rfl (Nat.le_of_ble_eq_true rfl) (Nat.le_of_ble_eq_true rfl) (Nat.zero_le _) (Nat.zero_le _) dX11_end_8 (fun r1 m2 => ?_)
  refine hv_if_ne (tgt := 16) hc dX11_end_11 (by decide) ?_ ?_
  · refine hv_aload_n hc dX11_end_16 rfl (hv_m 0 rfl) ?_
    refine hv_iload_n hc dX11_end_17 rfl (hv_m 1 rfl) ?_
    refine hv_putI hc fp_X11_75 sh_o_65 rfl dX11_end_18 (fun m3 => ?_)
    refine hv_iload_n hc dX11_end_21 rfl (hv_m 1 rfl) ?_
    exact hv_iret hc dX11_end_22
  · refine hv_iconst hc dX11_end_14 ?_
    exact hv_iret hc dX11_end_15
def f_X11_isAt (x1 x2 : Int) (mem : hMem) : hRs := hv_lt (mem 65 6) (mem 65 3) (hv_ald mem 68 600 (mem 65 6) (fun v1 => hv_rg v1 (hv_rg x1 (hv_rg x2 (hv_b (f_X11_in v1 x1 x2 mem) (fun r2 m3 => hv_eq r2 0 (hv_zr 0 m3) (hv_zr 1 m3))))))) (hv_zr 0 mem)
set_option maxRecDepth 100000 in
set_option maxHeartbeats 4000000 in
theorem c_X11_isAt (x1 x2 : Int) (mem : hMem) : hv_Met 1 0 0 0 yX11_isAt cX11_isAt 3 (some FieldType.boolean) (fun ad _ _ => [.ref (ad 65), .int (hv_I x1), .int (hv_I x2)]) mem (f_X11_isAt x1 x2 mem) := by
  refine hv_start (by decide +kernel) (fun _ _ _ => Nat.le_of_ble_eq_true rfl) ?_
  intro X hc
  have hc : hv_C X cX11_isAt 3 RX11 (some FieldType.boolean) 1 0 0 := hc
  show hv_R X 3 0 0 (hv_QX X 0 0 0) (f_X11_isAt x1 x2 mem) mem [] [(0, .ref (hv_ad X 65)), (1, .int (hv_I x1)), (2, .int (hv_I x2))] [] 0
  unfold f_X11_isAt
  refine hv_aload_n hc dX11_isAt_0 rfl (hv_m 0 rfl) ?_
  refine hv_getI hc fl_X11_82 sh_o_65 rfl dX11_isAt_1 ?_
  refine hv_aload_n hc dX11_isAt_4 rfl (hv_m 0 rfl) ?_
  refine hv_getI hc fl_X11_75 sh_o_65 rfl dX11_isAt_5 ?_
  refine hv_icmp_ge (tgt := 35) hc dX11_isAt_8 (by decide) ?_ ?_
  · refine hv_iconst hc dX11_isAt_35 ?_
    exact hv_zret hc dX11_isAt_36
  · refine hv_aload_n hc dX11_isAt_11 rfl (hv_m 0 rfl) ?_
    refine hv_getR hc fl_X11_16 sh_o_65 rfl dX11_isAt_12 ?_
    refine hv_aload_n hc dX11_isAt_15 rfl (hv_m 0 rfl) ?_
    refine hv_getI hc fl_X11_82 sh_o_65 rfl dX11_isAt_16 ?_
    refine hv_iaload hc sh_a_68 (Nat.le_of_ble_eq_true rfl) dX11_isAt_19 (fun v1 => ?_)
    refine hv_i2l hc dX11_isAt_20 ?_
    refine hv_iload_n hc dX11_isAt_21 rfl (hv_m 1 rfl) ?_
    refine hv_i2l hc dX11_isAt_22 ?_
    refine hv_iload_n hc dX11_isAt_23 rfl (hv_m 2 rfl) ?_
    refine hv_i2l hc dX11_isAt_24 ?_
    refine hv_callSi hc (c_X11_in v1 x1 x2 mem) ys_X11_in tw_1233 rfl rfl rfl (Nat.le_of_ble_eq_true rfl) (Nat.le_of_ble_eq_true rfl) (Nat.zero_le _) (Nat.zero_le _) dX11_isAt_25 (fun r2 m3 => ?_)
    refine hv_if_eq (tgt := 35) hc dX11_isAt_28 (by decide) ?_ ?_
    · refine hv_iconst hc dX11_isAt_35 ?_
      exact hv_zret hc dX11_isAt_36
    · refine hv_iconst hc dX11_isAt_31 ?_
      refine hv_goto (tgt := 36) hc dX11_isAt_32 (by decide) ?_
      exact hv_zret hc dX11_isAt_36
def J_X11_next_22 (R0 : hMem → hRs) (mem : hMem) : hRs := hv_put mem 65 6 ((mem 65 6) + 1) (fun m1 => R0 m1)
set_option maxRecDepth 100000 in
theorem g_X11_next_22 {X : hv_X} (hc : hv_C X cX11_next 1 RX11 (none) 2 0 0) (R0 : hMem → hRs) (hR0 : ∀ (mem : hMem), hv_R X 1 0 0 (hv_QX X 1 0 0) (R0 mem) mem [] [(0, .ref (hv_ad X 65))] [] 0) (mem : hMem) : hv_R X 1 0 0 (hv_QX X 1 0 0) (J_X11_next_22 R0 mem) mem [] [(0, .ref (hv_ad X 65))] [] 22 := by
  unfold J_X11_next_22
  refine hv_aload_n hc dX11_next_22 rfl (hv_m 0 rfl) ?_
  refine hv_dup hc dX11_next_23 rfl ?_
  refine hv_getI hc fl_X11_82 sh_o_65 rfl dX11_next_24 ?_
  refine hv_iconst hc dX11_next_27 ?_
  refine hv_iadd hc dX11_next_28 ?_
  refine hv_putI hc fp_X11_82 sh_o_65 rfl dX11_next_29 (fun m1 => ?_)
  refine hv_goto (tgt := 0) hc dX11_next_32 (by decide) ?_
  exact hv_pick [0] rfl (hR0 m1)
def J_X11_next_193 (s1 : Int) (mem : hMem) : hRs := hv_put mem 65 8 s1 (fun m1 => hv_put m1 65 6 ((m1 65 6) + 1) (fun m2 => hv_ret 0 m2))
set_option maxRecDepth 100000 in
theorem g_X11_next_193 {X : hv_X} (hc : hv_C X cX11_next 1 RX11 (none) 2 0 0) (s1 : Int) (mem : hMem) : hv_R X 1 0 0 (hv_QX X 1 0 0) (J_X11_next_193 s1 mem) mem [] [(0, .ref (hv_ad X 65))] [.int (hv_I s1), .ref (hv_ad X 65)] 193 := by
  unfold J_X11_next_193
  refine hv_putI hc fp_X11_95 sh_o_65 rfl dX11_next_193 (fun m1 => ?_)
  refine hv_aload_n hc dX11_next_196 rfl (hv_m 0 rfl) ?_
  refine hv_dup hc dX11_next_197 rfl ?_
  refine hv_getI hc fl_X11_82 sh_o_65 rfl dX11_next_198 ?_
  refine hv_iconst hc dX11_next_201 ?_
  refine hv_iadd hc dX11_next_202 ?_
  refine hv_putI hc fp_X11_82 sh_o_65 rfl dX11_next_203 (fun m2 => ?_)
  exact hv_vret hc dX11_next_206
def B_X11_next_123 (R123 : hMem → hRs) (mem : hMem) : hRs := hv_b (f_X11_isAt 48 57 mem) (fun r1 m2 => hv_eq r1 0 (hv_ret 0 m2) (hv_ald m2 68 600 (m2 65 6) (fun v3 => hv_b (f_J9_min_7cf53 99999 (((10 * (m2 65 9)) + v3) - 48) m2) (fun r4 m5 => hv_put m5 65 9 r4 (fun m6 => hv_put m6 65 6 ((m6 65 6) + 1) (fun m7 => R123 m7))))))
def L_X11_next_123 : Nat → hMem → hRs
  | 0 => fun _ => none
  | n + 1 => B_X11_next_123 (L_X11_next_123 n)
set_option maxRecDepth 100000 in
theorem gB_X11_next_123 {X : hv_X} (hc : hv_C X cX11_next 1 RX11 (none) 2 0 0) (R123 : hMem → hRs) (hR123 : ∀ (mem : hMem), hv_R X 1 0 0 (hv_QX X 1 0 0) (R123 mem) mem [] [(0, .ref (hv_ad X 65))] [] 123) (mem : hMem) : hv_R X 1 0 0 (hv_QX X 1 0 0) (B_X11_next_123 R123 mem) mem [] [(0, .ref (hv_ad X 65))] [] 123 := by
  unfold B_X11_next_123
  refine hv_aload_n hc dX11_next_123 rfl (hv_m 0 rfl) ?_
  refine hv_bipush hc dX11_next_124 (by decide) ?_
  refine hv_bipush hc dX11_next_126 (by decide) ?_
  refine hv_callVi hc (c_X11_isAt 48 57 mem) yv_X11_isAt tw_1244 sh_o_65 rfl rfl rfl rfl (Nat.le_of_ble_eq_true rfl) (Nat.le_of_ble_eq_true rfl) (Nat.zero_le _) (Nat.zero_le _) dX11_next_128 (fun r1 m2 => ?_)
  refine hv_if_eq (tgt := 206) hc dX11_next_131 (by decide) ?_ ?_
  · exact hv_vret hc dX11_next_206
  · refine hv_aload_n hc dX11_next_134 rfl (hv_m 0 rfl) ?_
    refine hv_ldc (n := 99999) hc tw_1248 (by decide) dX11_next_135 ?_
    refine hv_bipush hc dX11_next_137 (by decide) ?_
    refine hv_aload_n hc dX11_next_139 rfl (hv_m 0 rfl) ?_
    refine hv_getI hc fl_X11_92 sh_o_65 rfl dX11_next_140 ?_
    refine hv_imul hc dX11_next_143 ?_
    refine hv_aload_n hc dX11_next_144 rfl (hv_m 0 rfl) ?_
    refine hv_getR hc fl_X11_16 sh_o_65 rfl dX11_next_145 ?_
    refine hv_aload_n hc dX11_next_148 rfl (hv_m 0 rfl) ?_
    refine hv_getI hc fl_X11_82 sh_o_65 rfl dX11_next_149 ?_
    refine hv_iaload hc sh_a_68 (Nat.le_of_ble_eq_true rfl) dX11_next_152 (fun v3 => ?_)
    refine hv_iadd hc dX11_next_153 ?_
    refine hv_bipush hc dX11_next_154 (by decide) ?_
    refine hv_isub hc dX11_next_156 ?_
    refine hv_callSi hc (c_J9_min_7cf53 99999 (((10 * (m2 65 9)) + v3) - 48) m2) ys_J9_min_7cf53 tw_1249 rfl rfl rfl (Nat.le_of_ble_eq_true rfl) (Nat.le_of_ble_eq_true rfl) (Nat.zero_le _) (Nat.zero_le _) dX11_next_157 (fun r4 m5 => ?_)
    refine hv_putI hc fp_X11_92 sh_o_65 rfl dX11_next_160 (fun m6 => ?_)
    refine hv_aload_n hc dX11_next_163 rfl (hv_m 0 rfl) ?_
    refine hv_dup hc dX11_next_164 rfl ?_
    refine hv_getI hc fl_X11_82 sh_o_65 rfl dX11_next_165 ?_
    refine hv_iconst hc dX11_next_168 ?_
    refine hv_iadd hc dX11_next_169 ?_
    refine hv_putI hc fp_X11_82 sh_o_65 rfl dX11_next_170 (fun m7 => ?_)
    refine hv_goto (tgt := 123) hc dX11_next_173 (by decide) ?_
    exact hv_pick [0] rfl (hR123 m7)
theorem g_X11_next_123 {X : hv_X} (hc : hv_C X cX11_next 1 RX11 (none) 2 0 0) : ∀ (n : Nat) (mem : hMem), hv_R X 1 0 0 (hv_QX X 1 0 0) (L_X11_next_123 n mem) mem [] [(0, .ref (hv_ad X 65))] [] 123 := by
  intro n
  induction n with
  | zero => intros; exact hv_none
  | succ n ih => exact gB_X11_next_123 hc _ ih
def B_X11_next_83 (R83 : hMem → hRs) (mem : hMem) : hRs := hv_b (f_X11_isAt 97 122 mem) (fun r1 m2 => hv_eq r1 0 (hv_ret 0 m2) (hv_put m2 65 6 ((m2 65 6) + 1) (fun m3 => R83 m3)))
def L_X11_next_83 : Nat → hMem → hRs
  | 0 => fun _ => none
  | n + 1 => B_X11_next_83 (L_X11_next_83 n)
set_option maxRecDepth 100000 in
theorem gB_X11_next_83 {X : hv_X} (hc : hv_C X cX11_next 1 RX11 (none) 2 0 0) (R83 : hMem → hRs) (hR83 : ∀ (mem : hMem), hv_R X 1 0 0 (hv_QX X 1 0 0) (R83 mem) mem [] [(0, .ref (hv_ad X 65))] [] 83) (mem : hMem) : hv_R X 1 0 0 (hv_QX X 1 0 0) (B_X11_next_83 R83 mem) mem [] [(0, .ref (hv_ad X 65))] [] 83 := by
  unfold B_X11_next_83
  refine hv_aload_n hc dX11_next_83 rfl (hv_m 0 rfl) ?_
  refine hv_bipush hc dX11_next_84 (by decide) ?_
  refine hv_bipush hc dX11_next_86 (by decide) ?_
  refine hv_callVi hc (c_X11_isAt 97 122 mem) yv_X11_isAt tw_1244 sh_o_65 rfl rfl rfl rfl (Nat.le_of_ble_eq_true rfl) (Nat.le_of_ble_eq_true rfl) (Nat.zero_le _) (Nat.zero_le _) dX11_next_88 (fun r1 m2 => ?_)
  refine hv_if_eq (tgt := 206) hc dX11_next_91 (by decide) ?_ ?_
  · exact hv_vret hc dX11_next_206
  · refine hv_aload_n hc dX11_next_94 rfl (hv_m 0 rfl) ?_
    refine hv_dup hc dX11_next_95 rfl ?_
    refine hv_getI hc fl_X11_82 sh_o_65 rfl dX11_next_96 ?_
    refine hv_iconst hc dX11_next_99 ?_
    refine hv_iadd hc dX11_next_100 ?_
    refine hv_putI hc fp_X11_82 sh_o_65 rfl dX11_next_101 (fun m3 => ?_)
    refine hv_goto (tgt := 83) hc dX11_next_104 (by decide) ?_
    exact hv_pick [0] rfl (hR83 m3)
theorem g_X11_next_83 {X : hv_X} (hc : hv_C X cX11_next 1 RX11 (none) 2 0 0) : ∀ (n : Nat) (mem : hMem), hv_R X 1 0 0 (hv_QX X 1 0 0) (L_X11_next_83 n mem) mem [] [(0, .ref (hv_ad X 65))] [] 83 := by
  intro n
  induction n with
  | zero => intros; exact hv_none
  | succ n ih => exact gB_X11_next_83 hc _ ih
def B_X11_next_0 (R0 : hMem → hRs) (mem : hMem) : hRs := hv_b (f_X11_isAt 32 32 mem) (fun r1 m2 => hv_eq r1 0 (hv_b (f_X11_isAt 10 10 m2) (fun r3 m4 => hv_eq r3 0 (hv_put m4 65 7 (m4 65 6) (fun m5 => hv_put m5 65 9 0 (fun m6 => hv_eq (m6 65 6) (m6 65 3) (hv_put m6 65 8 0 (fun m15 => hv_ret 0 m15)) (hv_b (f_X11_isAt 97 122 m6) (fun r7 m8 => hv_eq r7 0 (hv_b (f_X11_isAt 48 57 m8) (fun r9 m10 => hv_eq r9 0 (hv_b (f_X11_isAt 59 59 m10) (fun r11 m12 => hv_eq r11 0 (J_X11_next_193 4 m12) (J_X11_next_193 3 m12))) (hv_put m10 65 8 2 (fun m13 => L_X11_next_123 hv_FU m13)))) (hv_put m8 65 8 1 (fun m14 => L_X11_next_83 hv_FU m14))))))) (J_X11_next_22 R0 m4))) (J_X11_next_22 R0 m2))
def L_X11_next_0 : Nat → hMem → hRs
  | 0 => fun _ => none
  | n + 1 => B_X11_next_0 (L_X11_next_0 n)
set_option maxRecDepth 100000 in
theorem gB_X11_next_0 {X : hv_X} (hc : hv_C X cX11_next 1 RX11 (none) 2 0 0) (R0 : hMem → hRs) (hR0 : ∀ (mem : hMem), hv_R X 1 0 0 (hv_QX X 1 0 0) (R0 mem) mem [] [(0, .ref (hv_ad X 65))] [] 0) (mem : hMem) : hv_R X 1 0 0 (hv_QX X 1 0 0) (B_X11_next_0 R0 mem) mem [] [(0, .ref (hv_ad X 65))] [] 0 := by
  unfold B_X11_next_0
  refine hv_aload_n hc dX11_next_0 rfl (hv_m 0 rfl) ?_
  refine hv_bipush hc dX11_next_1 (by decide) ?_
  refine hv_bipush hc dX11_next_3 (by decide) ?_
  refine hv_callVi hc (c_X11_isAt 32 32 mem) yv_X11_isAt tw_1244 sh_o_65 rfl rfl rfl rfl (Nat.le_of_ble_eq_true rfl) (Nat.le_of_ble_eq_true rfl) (Nat.zero_le _) (Nat.zero_le _) dX11_next_5 (fun r1 m2 => ?_)
  refine hv_if_ne (tgt := 22) hc dX11_next_8 (by decide) ?_ ?_
  · exact hv_pick [0] rfl (g_X11_next_22 hc R0 hR0 m2)
  · refine hv_aload_n hc dX11_next_11 rfl (hv_m 0 rfl) ?_
    refine hv_bipush hc dX11_next_12 (by decide) ?_
    refine hv_bipush hc dX11_next_14 (by decide) ?_
    refine hv_callVi hc (c_X11_isAt 10 10 m2) yv_X11_isAt tw_1244 sh_o_65 rfl rfl rfl rfl (Nat.le_of_ble_eq_true rfl) (Nat.le_of_ble_eq_true rfl) (Nat.zero_le _) (Nat.zero_le _) dX11_next_16 (fun r3 m4 => ?_)
    refine hv_if_eq (tgt := 35) hc dX11_next_19 (by decide) ?_ ?_
    · refine hv_aload_n hc dX11_next_35 rfl (hv_m 0 rfl) ?_
      refine hv_aload_n hc dX11_next_36 rfl (hv_m 0 rfl) ?_
      refine hv_getI hc fl_X11_82 sh_o_65 rfl dX11_next_37 ?_
      refine hv_putI hc fp_X11_89 sh_o_65 rfl dX11_next_40 (fun m5 => ?_)
      refine hv_aload_n hc dX11_next_43 rfl (hv_m 0 rfl) ?_
      refine hv_iconst hc dX11_next_44 ?_
      refine hv_putI hc fp_X11_92 sh_o_65 rfl dX11_next_45 (fun m6 => ?_)
      refine hv_aload_n hc dX11_next_48 rfl (hv_m 0 rfl) ?_
      refine hv_getI hc fl_X11_82 sh_o_65 rfl dX11_next_49 ?_
      refine hv_aload_n hc dX11_next_52 rfl (hv_m 0 rfl) ?_
      refine hv_getI hc fl_X11_75 sh_o_65 rfl dX11_next_53 ?_
      refine hv_icmp_ne (tgt := 67) hc dX11_next_56 (by decide) ?_ ?_
      · refine hv_aload_n hc dX11_next_67 rfl (hv_m 0 rfl) ?_
        refine hv_bipush hc dX11_next_68 (by decide) ?_
        refine hv_bipush hc dX11_next_70 (by decide) ?_
        refine hv_callVi hc (c_X11_isAt 97 122 m6) yv_X11_isAt tw_1244 sh_o_65 rfl rfl rfl rfl (Nat.le_of_ble_eq_true rfl) (Nat.le_of_ble_eq_true rfl) (Nat.zero_le _) (Nat.zero_le _) dX11_next_72 (fun r7 m8 => ?_)
        refine hv_if_eq (tgt := 107) hc dX11_next_75 (by decide) ?_ ?_
        · refine hv_aload_n hc dX11_next_107 rfl (hv_m 0 rfl) ?_
          refine hv_bipush hc dX11_next_108 (by decide) ?_
          refine hv_bipush hc dX11_next_110 (by decide) ?_
          refine hv_callVi hc (c_X11_isAt 48 57 m8) yv_X11_isAt tw_1244 sh_o_65 rfl rfl rfl rfl (Nat.le_of_ble_eq_true rfl) (Nat.le_of_ble_eq_true rfl) (Nat.zero_le _) (Nat.zero_le _) dX11_next_112 (fun r9 m10 => ?_)
          refine hv_if_eq (tgt := 176) hc dX11_next_115 (by decide) ?_ ?_
          · refine hv_aload_n hc dX11_next_176 rfl (hv_m 0 rfl) ?_
            refine hv_aload_n hc dX11_next_177 rfl (hv_m 0 rfl) ?_
            refine hv_bipush hc dX11_next_178 (by decide) ?_
            refine hv_bipush hc dX11_next_180 (by decide) ?_
            refine hv_callVi hc (c_X11_isAt 59 59 m10) yv_X11_isAt tw_1244 sh_o_65 rfl rfl rfl rfl (Nat.le_of_ble_eq_true rfl) (Nat.le_of_ble_eq_true rfl) (Nat.zero_le _) (Nat.zero_le _) dX11_next_182 (fun r11 m12 => ?_)
            refine hv_if_eq (tgt := 192) hc dX11_next_185 (by decide) ?_ ?_
            · refine hv_iconst hc dX11_next_192 ?_
              exact hv_pick [0] rfl (g_X11_next_193 hc 4 m12)
            · refine hv_iconst hc dX11_next_188 ?_
              refine hv_goto (tgt := 193) hc dX11_next_189 (by decide) ?_
              exact hv_pick [0] rfl (g_X11_next_193 hc 3 m12)
          · refine hv_aload_n hc dX11_next_118 rfl (hv_m 0 rfl) ?_
            refine hv_iconst hc dX11_next_119 ?_
            refine hv_putI hc fp_X11_95 sh_o_65 rfl dX11_next_120 (fun m13 => ?_)
            exact hv_pick [0] rfl (g_X11_next_123 hc hv_FU m13)
        · refine hv_aload_n hc dX11_next_78 rfl (hv_m 0 rfl) ?_
          refine hv_iconst hc dX11_next_79 ?_
          refine hv_putI hc fp_X11_95 sh_o_65 rfl dX11_next_80 (fun m14 => ?_)
          exact hv_pick [0] rfl (g_X11_next_83 hc hv_FU m14)
      · refine hv_aload_n hc dX11_next_59 rfl (hv_m 0 rfl) ?_
        refine hv_iconst hc dX11_next_60 ?_
        refine hv_putI hc fp_X11_95 sh_o_65 rfl dX11_next_61 (fun m15 => ?_)
        refine hv_goto (tgt := 206) hc dX11_next_64 (by decide) ?_
        exact hv_vret hc dX11_next_206
    · exact hv_pick [0] rfl (g_X11_next_22 hc R0 hR0 m4)
theorem g_X11_next_0 {X : hv_X} (hc : hv_C X cX11_next 1 RX11 (none) 2 0 0) : ∀ (n : Nat) (mem : hMem), hv_R X 1 0 0 (hv_QX X 1 0 0) (L_X11_next_0 n mem) mem [] [(0, .ref (hv_ad X 65))] [] 0 := by
  intro n
  induction n with
  | zero => intros; exact hv_none
  | succ n ih => exact gB_X11_next_0 hc _ ih
def f_X11_next (mem : hMem) : hRs := L_X11_next_0 hv_FU mem
set_option maxRecDepth 100000 in
set_option maxHeartbeats 4000000 in
theorem c_X11_next (mem : hMem) : hv_Met 2 0 0 1 yX11_next cX11_next 1 (none) (fun ad _ _ => [.ref (ad 65)]) mem (f_X11_next mem) := by
  refine hv_start (by decide +kernel) (fun _ _ _ => Nat.le_of_ble_eq_true rfl) ?_
  intro X hc
  have hc : hv_C X cX11_next 1 RX11 (none) 2 0 0 := hc
  show hv_R X 1 0 0 (hv_QX X 1 0 0) (f_X11_next mem) mem [] [(0, .ref (hv_ad X 65))] [] 0
  unfold f_X11_next
  exact hv_pick [0] rfl (g_X11_next_0 hc hv_FU mem)
def f_X11_faults (x1 : Int) (mem : hMem) : hRs := hv_eq (mem 65 10) 0 (hv_put mem 65 10 1 (fun m1 => hv_put m1 65 4 x1 (fun m2 => hv_put m2 65 5 (m2 65 7) (fun m3 => hv_ret 0 m3)))) (hv_ret 0 mem)
set_option maxRecDepth 100000 in
set_option maxHeartbeats 4000000 in
theorem c_X11_faults (x1 : Int) (mem : hMem) : hv_Met 0 0 0 1 yX11_faults cX11_faults 2 (none) (fun ad _ _ => [.ref (ad 65), .int (hv_I x1)]) mem (f_X11_faults x1 mem) := by
  refine hv_start (by decide +kernel) (fun _ _ _ => Nat.le_of_ble_eq_true rfl) ?_
  intro X hc
  have hc : hv_C X cX11_faults 2 RX11 (none) 0 0 0 := hc
  show hv_R X 2 0 0 (hv_QX X 1 0 0) (f_X11_faults x1 mem) mem [] [(0, .ref (hv_ad X 65)), (1, .int (hv_I x1))] [] 0
  unfold f_X11_faults
  refine hv_aload_n hc dX11_faults_0 rfl (hv_m 0 rfl) ?_
  refine hv_getI hc fl_X11_105 sh_o_65 rfl dX11_faults_1 ?_
  refine hv_if_ne (tgt := 25) hc dX11_faults_4 (by decide) ?_ ?_
  · exact hv_vret hc dX11_faults_25
  · refine hv_aload_n hc dX11_faults_7 rfl (hv_m 0 rfl) ?_
    refine hv_iconst hc dX11_faults_8 ?_
    refine hv_putZ hc fp_X11_105 sh_o_65 rfl (by decide) dX11_faults_9 (fun m1 => ?_)
    refine hv_aload_n hc dX11_faults_12 rfl (hv_m 0 rfl) ?_
    refine hv_iload_n hc dX11_faults_13 rfl (hv_m 1 rfl) ?_
    refine hv_putI hc fp_X11_109 sh_o_65 rfl dX11_faults_14 (fun m2 => ?_)
    refine hv_aload_n hc dX11_faults_17 rfl (hv_m 0 rfl) ?_
    refine hv_aload_n hc dX11_faults_18 rfl (hv_m 0 rfl) ?_
    refine hv_getI hc fl_X11_89 sh_o_65 rfl dX11_faults_19 ?_
    refine hv_putI hc fp_X11_19 sh_o_65 rfl dX11_faults_22 (fun m3 => ?_)
    exact hv_vret hc dX11_faults_25
def B_X11_isWord_28 (w1 : Nat) (R28 : Int → hMem → hRs) (x2 : Int) (mem : hMem) : hRs := hv_b (f_J0_length_8abf5 w1 mem) (fun r1 m2 => hv_lt x2 r1 (hv_ald m2 68 600 ((m2 65 7) + x2) (fun v3 => hv_b (f_J0_charAt_5068e w1 x2 m2) (fun r4 m5 => hv_eq v3 r4 (hv_set (x2 + 1) (fun y6 => R28 y6 m5)) (hv_zr 0 m5)))) (hv_zr 1 m2))
def L_X11_isWord_28 (w1 : Nat) : Nat → Int → hMem → hRs
  | 0 => fun _ _ => none
  | n + 1 => B_X11_isWord_28 w1 (L_X11_isWord_28 w1 n)
set_option maxRecDepth 100000 in
theorem gB_X11_isWord_28 {X : hv_X} (hc : hv_C X cX11_isWord 3 RX11 (some FieldType.boolean) 4 0 0) (w1 : Nat) (hw1 : w1 < 8) (R28 : Int → hMem → hRs) (hR28 : ∀ (x2 : Int) (mem : hMem), hv_R X 3 0 0 (hv_QX X 0 0 0) (R28 x2 mem) mem [] [(0, .ref (hv_ad X 65)), (1, .ref (hv_ak X w1)), (2, .int (hv_I x2))] [] 28) (x2 : Int) (mem : hMem) : hv_R X 3 0 0 (hv_QX X 0 0 0) (B_X11_isWord_28 w1 R28 x2 mem) mem [] [(0, .ref (hv_ad X 65)), (1, .ref (hv_ak X w1)), (2, .int (hv_I x2))] [] 28 := by
  unfold B_X11_isWord_28
  refine hv_iload_n hc dX11_isWord_28 rfl (hv_m 2 rfl) ?_
  refine hv_aload_n hc dX11_isWord_29 rfl (hv_m 1 rfl) ?_
  refine hv_callStr hc (c_J0_length_8abf5 w1 hw1 mem) yv_J0_length_8abf5 tw_1259 hw1 rfl rfl rfl rfl (Nat.le_of_ble_eq_true rfl) (Nat.le_of_ble_eq_true rfl) (Nat.zero_le _) (Nat.zero_le _) dX11_isWord_30 (fun r1 m2 => ?_)
  refine hv_icmp_ge (tgt := 63) hc dX11_isWord_33 (by decide) ?_ ?_
  · refine hv_iconst hc dX11_isWord_63 ?_
    exact hv_zret hc dX11_isWord_64
  · refine hv_aload_n hc dX11_isWord_36 rfl (hv_m 0 rfl) ?_
    refine hv_getR hc fl_X11_16 sh_o_65 rfl dX11_isWord_37 ?_
    refine hv_aload_n hc dX11_isWord_40 rfl (hv_m 0 rfl) ?_
    refine hv_getI hc fl_X11_89 sh_o_65 rfl dX11_isWord_41 ?_
    refine hv_iload_n hc dX11_isWord_44 rfl (hv_m 2 rfl) ?_
    refine hv_iadd hc dX11_isWord_45 ?_
    refine hv_iaload hc sh_a_68 (Nat.le_of_ble_eq_true rfl) dX11_isWord_46 (fun v3 => ?_)
    refine hv_aload_n hc dX11_isWord_47 rfl (hv_m 1 rfl) ?_
    refine hv_iload_n hc dX11_isWord_48 rfl (hv_m 2 rfl) ?_
    refine hv_callStr hc (c_J0_charAt_5068e w1 hw1 x2 m2) yv_J0_charAt_5068e tw_1260 hw1 rfl rfl rfl rfl (Nat.le_of_ble_eq_true rfl) (Nat.le_of_ble_eq_true rfl) (Nat.zero_le _) (Nat.zero_le _) dX11_isWord_49 (fun r4 m5 => ?_)
    refine hv_icmp_eq (tgt := 57) hc dX11_isWord_52 (by decide) ?_ ?_
    · refine hv_iinc_s (lvf := fun y6 => [(2, .int (hv_I y6)), (0, .ref (hv_ad X 65)), (1, .ref (hv_ak X w1))]) hc dX11_isWord_57 (by decide) (hv_m 2 rfl) (fun _ => rfl) (fun y6 => ?_)
      refine hv_goto (tgt := 28) hc dX11_isWord_60 (by decide) ?_
      exact hv_pick [1, 2, 0] rfl (hR28 y6 m5)
    · refine hv_iconst hc dX11_isWord_55 ?_
      exact hv_zret hc dX11_isWord_56
theorem g_X11_isWord_28 {X : hv_X} (hc : hv_C X cX11_isWord 3 RX11 (some FieldType.boolean) 4 0 0) (w1 : Nat) (hw1 : w1 < 8) : ∀ (n : Nat) (x2 : Int) (mem : hMem), hv_R X 3 0 0 (hv_QX X 0 0 0) (L_X11_isWord_28 w1 n x2 mem) mem [] [(0, .ref (hv_ad X 65)), (1, .ref (hv_ak X w1)), (2, .int (hv_I x2))] [] 28 := by
  intro n
  induction n with
  | zero => intros; exact hv_none
  | succ n ih => exact gB_X11_isWord_28 hc w1 hw1 _ ih
def f_X11_isWord (w1 : Nat) (mem : hMem) : hRs := hv_eq (mem 65 8) 1 (hv_b (f_J0_length_8abf5 w1 mem) (fun r1 m2 => hv_eq ((mem 65 6) - (mem 65 7)) r1 (L_X11_isWord_28 w1 hv_FU 0 m2) (hv_zr 0 m2))) (hv_zr 0 mem)
set_option maxRecDepth 100000 in
set_option maxHeartbeats 4000000 in
theorem c_X11_isWord (w1 : Nat) (hw1 : w1 < 8) (mem : hMem) : hv_Met 4 0 0 0 yX11_isWord cX11_isWord 3 (some FieldType.boolean) (fun ad ak _ => [.ref (ad 65), .ref (ak w1)]) mem (f_X11_isWord w1 mem) := by
  refine hv_start (by decide +kernel) (fun _ _ _ => Nat.le_of_ble_eq_true rfl) ?_
  intro X hc
  have hc : hv_C X cX11_isWord 3 RX11 (some FieldType.boolean) 4 0 0 := hc
  show hv_R X 3 0 0 (hv_QX X 0 0 0) (f_X11_isWord w1 mem) mem [] [(0, .ref (hv_ad X 65)), (1, .ref (hv_ak X w1))] [] 0
  unfold f_X11_isWord
  refine hv_aload_n hc dX11_isWord_0 rfl (hv_m 0 rfl) ?_
  refine hv_getI hc fl_X11_95 sh_o_65 rfl dX11_isWord_1 ?_
  refine hv_iconst hc dX11_isWord_4 ?_
  refine hv_icmp_ne (tgt := 24) hc dX11_isWord_5 (by decide) ?_ ?_
  · refine hv_iconst hc dX11_isWord_24 ?_
    exact hv_zret hc dX11_isWord_25
  · refine hv_aload_n hc dX11_isWord_8 rfl (hv_m 0 rfl) ?_
    refine hv_getI hc fl_X11_82 sh_o_65 rfl dX11_isWord_9 ?_
    refine hv_aload_n hc dX11_isWord_12 rfl (hv_m 0 rfl) ?_
    refine hv_getI hc fl_X11_89 sh_o_65 rfl dX11_isWord_13 ?_
    refine hv_isub hc dX11_isWord_16 ?_
    refine hv_aload_n hc dX11_isWord_17 rfl (hv_m 1 rfl) ?_
    refine hv_callStr hc (c_J0_length_8abf5 w1 hw1 mem) yv_J0_length_8abf5 tw_1259 hw1 rfl rfl rfl rfl (Nat.le_of_ble_eq_true rfl) (Nat.le_of_ble_eq_true rfl) (Nat.zero_le _) (Nat.zero_le _) dX11_isWord_18 (fun r1 m2 => ?_)
    refine hv_icmp_eq (tgt := 26) hc dX11_isWord_21 (by decide) ?_ ?_
    · refine hv_iconst hc dX11_isWord_26 ?_
      refine hv_istore_n (lv' := [(2, .int (hv_I 0)), (0, .ref (hv_ad X 65)), (1, .ref (hv_ak X w1))]) hc dX11_isWord_27 rfl (by decide) rfl ?_
      exact hv_pick [1, 2, 0] rfl (g_X11_isWord_28 hc w1 hw1 hv_FU 0 m2)
    · refine hv_iconst hc dX11_isWord_24 ?_
      exact hv_zret hc dX11_isWord_25
def J_X11_passes_9 (mem : hMem) : hRs := hv_eq (mem 65 10) 0 (hv_b (f_X11_next mem) (fun r1 m2 => hv_ret 0 m2)) (hv_ret 0 mem)
set_option maxRecDepth 100000 in
theorem g_X11_passes_9 {X : hv_X} (hc : hv_C X cX11_passes 2 RX11 (none) 3 0 0) (mem : hMem) : hv_R X 2 0 0 (hv_QX X 1 0 0) (J_X11_passes_9 mem) mem [] [(0, .ref (hv_ad X 65))] [] 9 := by
  unfold J_X11_passes_9
  refine hv_aload_n hc dX11_passes_9 rfl (hv_m 0 rfl) ?_
  refine hv_getI hc fl_X11_105 sh_o_65 rfl dX11_passes_10 ?_
  refine hv_if_ne (tgt := 20) hc dX11_passes_13 (by decide) ?_ ?_
  · exact hv_vret hc dX11_passes_20
  · refine hv_aload_n hc dX11_passes_16 rfl (hv_m 0 rfl) ?_
    refine hv_callVv hc (c_X11_next mem) yv_X11_next tw_1240 sh_o_65 rfl rfl rfl rfl (Nat.le_of_ble_eq_true rfl) (Nat.le_of_ble_eq_true rfl) (Nat.zero_le _) (Nat.zero_le _) dX11_passes_17 (fun r1 m2 => ?_)
    exact hv_vret hc dX11_passes_20
def f_X11_passes (x1 : Int) (mem : hMem) : hRs := hv_eq x1 0 (hv_b (f_X11_faults 1 mem) (fun r1 m2 => J_X11_passes_9 m2)) (J_X11_passes_9 mem)
set_option maxRecDepth 100000 in
set_option maxHeartbeats 4000000 in
theorem c_X11_passes (x1 : Int) (mem : hMem) : hv_Met 3 0 0 1 yX11_passes cX11_passes 2 (none) (fun ad _ _ => [.ref (ad 65), .int (hv_I x1)]) mem (f_X11_passes x1 mem) := by
  refine hv_start (by decide +kernel) (fun _ _ _ => Nat.le_of_ble_eq_true rfl) ?_
  intro X hc
  have hc : hv_C X cX11_passes 2 RX11 (none) 3 0 0 := hc
  show hv_R X 2 0 0 (hv_QX X 1 0 0) (f_X11_passes x1 mem) mem [] [(0, .ref (hv_ad X 65)), (1, .int (hv_I x1))] [] 0
  unfold f_X11_passes
  refine hv_iload_n hc dX11_passes_0 rfl (hv_m 1 rfl) ?_
  refine hv_if_ne (tgt := 9) hc dX11_passes_1 (by decide) ?_ ?_
  · exact hv_pick [0] rfl (g_X11_passes_9 hc mem)
  · refine hv_aload_n hc dX11_passes_4 rfl (hv_m 0 rfl) ?_
    refine hv_iconst hc dX11_passes_5 ?_
    refine hv_callVv hc (c_X11_faults 1 mem) yv_X11_faults tw_1265 sh_o_65 rfl rfl rfl rfl (Nat.le_of_ble_eq_true rfl) (Nat.le_of_ble_eq_true rfl) (Nat.zero_le _) (Nat.zero_le _) dX11_passes_6 (fun r1 m2 => ?_)
    exact hv_pick [0] rfl (g_X11_passes_9 hc m2)
def J_X11_reads_38 (x3 : Int) (mem : hMem) : hRs := hv_b (f_X11_passes 1 mem) (fun r1 m2 => hv_ret x3 m2)
set_option maxRecDepth 100000 in
theorem g_X11_reads_38 {X : hv_X} (hc : hv_C X cX11_reads 4 RX11 (some FieldType.int) 4 0 0) (x3 : Int) (mem : hMem) : hv_R X 4 0 0 (hv_QX X 0 0 0) (J_X11_reads_38 x3 mem) mem [] [(0, .ref (hv_ad X 65)), (3, .int (hv_I x3))] [] 38 := by
  unfold J_X11_reads_38
  refine hv_aload_n hc dX11_reads_38 rfl (hv_m 0 rfl) ?_
  refine hv_iconst hc dX11_reads_39 ?_
  refine hv_callVv hc (c_X11_passes 1 mem) yv_X11_passes tw_1261 sh_o_65 rfl rfl rfl rfl (Nat.le_of_ble_eq_true rfl) (Nat.le_of_ble_eq_true rfl) (Nat.zero_le _) (Nat.zero_le _) dX11_reads_40 (fun r1 m2 => ?_)
  refine hv_iload_n hc dX11_reads_43 rfl (hv_m 1 rfl) ?_
  exact hv_iret hc dX11_reads_44
def f_X11_reads (x1 x2 : Int) (mem : hMem) : hRs := hv_set (mem 65 9) (fun y1 => hv_eq (mem 65 8) 2 (hv_rg y1 (hv_rg x1 (hv_rg x2 (hv_b (f_X11_in y1 x1 x2 mem) (fun r2 m3 => hv_eq r2 0 (hv_b (f_X11_faults 2 m3) (fun r4 m5 => J_X11_reads_38 y1 m5)) (J_X11_reads_38 y1 m3)))))) (hv_b (f_X11_faults 1 mem) (fun r6 m7 => J_X11_reads_38 y1 m7)))
set_option maxRecDepth 100000 in
set_option maxHeartbeats 4000000 in
theorem c_X11_reads (x1 x2 : Int) (mem : hMem) : hv_Met 4 0 0 0 yX11_reads cX11_reads 4 (some FieldType.int) (fun ad _ _ => [.ref (ad 65), .int (hv_I x1), .int (hv_I x2)]) mem (f_X11_reads x1 x2 mem) := by
  refine hv_start (by decide +kernel) (fun _ _ _ => Nat.le_of_ble_eq_true rfl) ?_
  intro X hc
  have hc : hv_C X cX11_reads 4 RX11 (some FieldType.int) 4 0 0 := hc
  show hv_R X 4 0 0 (hv_QX X 0 0 0) (f_X11_reads x1 x2 mem) mem [] [(0, .ref (hv_ad X 65)), (1, .int (hv_I x1)), (2, .int (hv_I x2))] [] 0
  unfold f_X11_reads
  refine hv_aload_n hc dX11_reads_0 rfl (hv_m 0 rfl) ?_
  refine hv_getI hc fl_X11_92 sh_o_65 rfl dX11_reads_1 ?_
  refine hv_istore_ns (lvf := fun y1 => [(3, .int (hv_I y1)), (0, .ref (hv_ad X 65)), (1, .int (hv_I x1)), (2, .int (hv_I x2))]) hc dX11_reads_4 rfl (by decide) (fun _ => rfl) (fun y1 => ?_)
  refine hv_aload_n hc dX11_reads_5 rfl (hv_m 1 rfl) ?_
  refine hv_getI hc fl_X11_95 sh_o_65 rfl dX11_reads_6 ?_
  refine hv_iconst hc dX11_reads_9 ?_
  refine hv_icmp_eq (tgt := 21) hc dX11_reads_10 (by decide) ?_ ?_
  · refine hv_iload_n hc dX11_reads_21 rfl (hv_m 0 rfl) ?_
    refine hv_i2l hc dX11_reads_22 ?_
    refine hv_iload_n hc dX11_reads_23 rfl (hv_m 2 rfl) ?_
    refine hv_i2l hc dX11_reads_24 ?_
    refine hv_iload_n hc dX11_reads_25 rfl (hv_m 3 rfl) ?_
    refine hv_i2l hc dX11_reads_26 ?_
    refine hv_callSi hc (c_X11_in y1 x1 x2 mem) ys_X11_in tw_1233 rfl rfl rfl (Nat.le_of_ble_eq_true rfl) (Nat.le_of_ble_eq_true rfl) (Nat.zero_le _) (Nat.zero_le _) dX11_reads_27 (fun r2 m3 => ?_)
    refine hv_if_ne (tgt := 38) hc dX11_reads_30 (by decide) ?_ ?_
    · exact hv_pick [1, 0] rfl (g_X11_reads_38 hc y1 m3)
    · refine hv_aload_n hc dX11_reads_33 rfl (hv_m 1 rfl) ?_
      refine hv_iconst hc dX11_reads_34 ?_
      refine hv_callVv hc (c_X11_faults 2 m3) yv_X11_faults tw_1265 sh_o_65 rfl rfl rfl rfl (Nat.le_of_ble_eq_true rfl) (Nat.le_of_ble_eq_true rfl) (Nat.zero_le _) (Nat.zero_le _) dX11_reads_35 (fun r4 m5 => ?_)
      exact hv_pick [1, 0] rfl (g_X11_reads_38 hc y1 m5)
  · refine hv_aload_n hc dX11_reads_13 rfl (hv_m 1 rfl) ?_
    refine hv_iconst hc dX11_reads_14 ?_
    refine hv_callVv hc (c_X11_faults 1 mem) yv_X11_faults tw_1265 sh_o_65 rfl rfl rfl rfl (Nat.le_of_ble_eq_true rfl) (Nat.le_of_ble_eq_true rfl) (Nat.zero_le _) (Nat.zero_le _) dX11_reads_15 (fun r6 m7 => ?_)
    refine hv_goto (tgt := 38) hc dX11_reads_18 (by decide) ?_
    exact hv_pick [1, 0] rfl (g_X11_reads_38 hc y1 m7)
def J_X11_readsVersion_50 (mem : hMem) : hRs := hv_ald mem 66 216 2 (fun v1 => hv_b (f_X11_reads 0 (v1 - 1) mem) (fun r2 m3 => hv_ret r2 m3))
set_option maxRecDepth 100000 in
theorem g_X11_readsVersion_50 {X : hv_X} (hc : hv_C X cX11_readsVersion 3 RX11 (some FieldType.int) 5 0 0) (mem : hMem) : hv_R X 3 0 0 (hv_QX X 0 0 0) (J_X11_readsVersion_50 mem) mem [] [(0, .ref (hv_ad X 65))] [] 50 := by
  unfold J_X11_readsVersion_50
  refine hv_aload_n hc dX11_readsVersion_50 rfl (hv_m 0 rfl) ?_
  refine hv_iconst hc dX11_readsVersion_51 ?_
  refine hv_aload_n hc dX11_readsVersion_52 rfl (hv_m 0 rfl) ?_
  refine hv_getR hc fl_X11_9 sh_o_65 rfl dX11_readsVersion_53 ?_
  refine hv_iconst hc dX11_readsVersion_56 ?_
  refine hv_iaload hc sh_a_66 (Nat.le_of_ble_eq_true rfl) dX11_readsVersion_57 (fun v1 => ?_)
  refine hv_iconst hc dX11_readsVersion_58 ?_
  refine hv_isub hc dX11_readsVersion_59 ?_
  refine hv_callVi hc (c_X11_reads 0 (v1 - 1) mem) yv_X11_reads tw_1270 sh_o_65 rfl rfl rfl rfl (Nat.le_of_ble_eq_true rfl) (Nat.le_of_ble_eq_true rfl) (Nat.zero_le _) (Nat.zero_le _) dX11_readsVersion_60 (fun r2 m3 => ?_)
  exact hv_iret hc dX11_readsVersion_63
def f_X11_readsVersion (x1 x2 : Int) (mem : hMem) : hRs := hv_eq (mem 65 8) 2 (hv_ald mem 66 216 2 (fun v1 => hv_lt (mem 65 9) v1 (hv_ald mem 66 216 (186 + (mem 65 9)) (fun v2 => hv_rg v2 (hv_rg x1 (hv_rg x2 (hv_b (f_X11_in v2 x1 x2 mem) (fun r3 m4 => hv_eq r3 0 (hv_b (f_X11_faults 2 m4) (fun r5 m6 => J_X11_readsVersion_50 m6)) (J_X11_readsVersion_50 m4))))))) (J_X11_readsVersion_50 mem))) (J_X11_readsVersion_50 mem)
set_option maxRecDepth 100000 in
set_option maxHeartbeats 4000000 in
theorem c_X11_readsVersion (x1 x2 : Int) (mem : hMem) : hv_Met 5 0 0 0 yX11_readsVersion cX11_readsVersion 3 (some FieldType.int) (fun ad _ _ => [.ref (ad 65), .int (hv_I x1), .int (hv_I x2)]) mem (f_X11_readsVersion x1 x2 mem) := by
  refine hv_start (by decide +kernel) (fun _ _ _ => Nat.le_of_ble_eq_true rfl) ?_
  intro X hc
  have hc : hv_C X cX11_readsVersion 3 RX11 (some FieldType.int) 5 0 0 := hc
  show hv_R X 3 0 0 (hv_QX X 0 0 0) (f_X11_readsVersion x1 x2 mem) mem [] [(0, .ref (hv_ad X 65)), (1, .int (hv_I x1)), (2, .int (hv_I x2))] [] 0
  unfold f_X11_readsVersion
  refine hv_aload_n hc dX11_readsVersion_0 rfl (hv_m 0 rfl) ?_
  refine hv_getI hc fl_X11_95 sh_o_65 rfl dX11_readsVersion_1 ?_
  refine hv_iconst hc dX11_readsVersion_4 ?_
  refine hv_icmp_ne (tgt := 50) hc dX11_readsVersion_5 (by decide) ?_ ?_
  · exact hv_pick [0] rfl (g_X11_readsVersion_50 hc mem)
  · refine hv_aload_n hc dX11_readsVersion_8 rfl (hv_m 0 rfl) ?_
    refine hv_getI hc fl_X11_92 sh_o_65 rfl dX11_readsVersion_9 ?_
    refine hv_aload_n hc dX11_readsVersion_12 rfl (hv_m 0 rfl) ?_
    refine hv_getR hc fl_X11_9 sh_o_65 rfl dX11_readsVersion_13 ?_
    refine hv_iconst hc dX11_readsVersion_16 ?_
    refine hv_iaload hc sh_a_66 (Nat.le_of_ble_eq_true rfl) dX11_readsVersion_17 (fun v1 => ?_)
    refine hv_icmp_ge (tgt := 50) hc dX11_readsVersion_18 (by decide) ?_ ?_
    · exact hv_pick [0] rfl (g_X11_readsVersion_50 hc mem)
    · refine hv_aload_n hc dX11_readsVersion_21 rfl (hv_m 0 rfl) ?_
      refine hv_getR hc fl_X11_9 sh_o_65 rfl dX11_readsVersion_22 ?_
      refine hv_sipush hc dX11_readsVersion_25 (by decide) ?_
      refine hv_aload_n hc dX11_readsVersion_28 rfl (hv_m 0 rfl) ?_
      refine hv_getI hc fl_X11_92 sh_o_65 rfl dX11_readsVersion_29 ?_
      refine hv_iadd hc dX11_readsVersion_32 ?_
      refine hv_iaload hc sh_a_66 (Nat.le_of_ble_eq_true rfl) dX11_readsVersion_33 (fun v2 => ?_)
      refine hv_i2l hc dX11_readsVersion_34 ?_
      refine hv_iload_n hc dX11_readsVersion_35 rfl (hv_m 1 rfl) ?_
      refine hv_i2l hc dX11_readsVersion_36 ?_
      refine hv_iload_n hc dX11_readsVersion_37 rfl (hv_m 2 rfl) ?_
      refine hv_i2l hc dX11_readsVersion_38 ?_
      refine hv_callSi hc (c_X11_in v2 x1 x2 mem) ys_X11_in tw_1233 rfl rfl rfl (Nat.le_of_ble_eq_true rfl) (Nat.le_of_ble_eq_true rfl) (Nat.zero_le _) (Nat.zero_le _) dX11_readsVersion_39 (fun r3 m4 => ?_)
      refine hv_if_ne (tgt := 50) hc dX11_readsVersion_42 (by decide) ?_ ?_
      · exact hv_pick [0] rfl (g_X11_readsVersion_50 hc m4)
      · refine hv_aload_n hc dX11_readsVersion_45 rfl (hv_m 0 rfl) ?_
        refine hv_iconst hc dX11_readsVersion_46 ?_
        refine hv_callVv hc (c_X11_faults 2 m4) yv_X11_faults tw_1265 sh_o_65 rfl rfl rfl rfl (Nat.le_of_ble_eq_true rfl) (Nat.le_of_ble_eq_true rfl) (Nat.zero_le _) (Nat.zero_le _) dX11_readsVersion_47 (fun r5 m6 => ?_)
        exact hv_pick [0] rfl (g_X11_readsVersion_50 hc m6)
def J_X11_readsPlan_69 (s1 : Int) (mem : hMem) : hRs := hv_b (f_X11_passes s1 mem) (fun r1 m2 => hv_b (f_X11_reads 1 4 m2) (fun r3 m4 => hv_ast m4 66 216 1 r3 (fun m5 => hv_ret 0 m5)))
set_option maxRecDepth 100000 in
theorem g_X11_readsPlan_69 {X : hv_X} (hc : hv_C X cX11_readsPlan 1 RX11 (none) 5 0 0) (s1 : Int) (mem : hMem) : hv_R X 1 0 0 (hv_QX X 1 0 0) (J_X11_readsPlan_69 s1 mem) mem [] [(0, .ref (hv_ad X 65))] [.int (hv_I s1), .ref (hv_ad X 65)] 69 := by
  unfold J_X11_readsPlan_69
  refine hv_callVv hc (c_X11_passes s1 mem) yv_X11_passes tw_1261 sh_o_65 rfl rfl rfl rfl (Nat.le_of_ble_eq_true rfl) (Nat.le_of_ble_eq_true rfl) (Nat.zero_le _) (Nat.zero_le _) dX11_readsPlan_69 (fun r1 m2 => ?_)
  refine hv_aload_n hc dX11_readsPlan_72 rfl (hv_m 0 rfl) ?_
  refine hv_getR hc fl_X11_9 sh_o_65 rfl dX11_readsPlan_73 ?_
  refine hv_iconst hc dX11_readsPlan_76 ?_
  refine hv_aload_n hc dX11_readsPlan_77 rfl (hv_m 0 rfl) ?_
  refine hv_iconst hc dX11_readsPlan_78 ?_
  refine hv_iconst hc dX11_readsPlan_79 ?_
  refine hv_callVi hc (c_X11_reads 1 4 m2) yv_X11_reads tw_1270 sh_o_65 rfl rfl rfl rfl (Nat.le_of_ble_eq_true rfl) (Nat.le_of_ble_eq_true rfl) (Nat.zero_le _) (Nat.zero_le _) dX11_readsPlan_80 (fun r3 m4 => ?_)
  refine hv_iastore hc sh_a_66 (Nat.le_of_ble_eq_true rfl) dX11_readsPlan_83 (fun m5 => ?_)
  exact hv_vret hc dX11_readsPlan_84
def J_X11_readsPlan_64 (mem : hMem) : hRs := J_X11_readsPlan_69 1 mem
set_option maxRecDepth 100000 in
theorem g_X11_readsPlan_64 {X : hv_X} (hc : hv_C X cX11_readsPlan 1 RX11 (none) 5 0 0) (mem : hMem) : hv_R X 1 0 0 (hv_QX X 1 0 0) (J_X11_readsPlan_64 mem) mem [] [(0, .ref (hv_ad X 65))] [.ref (hv_ad X 65)] 64 := by
  unfold J_X11_readsPlan_64
  refine hv_iconst hc dX11_readsPlan_64 ?_
  refine hv_goto (tgt := 69) hc dX11_readsPlan_65 (by decide) ?_
  exact hv_pick [0] rfl (g_X11_readsPlan_69 hc 1 mem)
def J_X11_readsPlan_32 (s1 : Int) (mem : hMem) : hRs := hv_b (f_X11_passes s1 mem) (fun r1 m2 => hv_b (f_X11_reads 0 1 m2) (fun r3 m4 => hv_ast m4 66 216 0 r3 (fun m5 => hv_eq (m5 65 10) 0 (hv_b (f_X11_isWord 2 m5) (fun r6 m7 => hv_eq r6 0 (J_X11_readsPlan_69 0 m7) (J_X11_readsPlan_64 m7))) (J_X11_readsPlan_64 m5))))
set_option maxRecDepth 100000 in
theorem g_X11_readsPlan_32 {X : hv_X} (hc : hv_C X cX11_readsPlan 1 RX11 (none) 5 0 0) (s1 : Int) (mem : hMem) : hv_R X 1 0 0 (hv_QX X 1 0 0) (J_X11_readsPlan_32 s1 mem) mem [] [(0, .ref (hv_ad X 65))] [.int (hv_I s1), .ref (hv_ad X 65)] 32 := by
  unfold J_X11_readsPlan_32
  refine hv_callVv hc (c_X11_passes s1 mem) yv_X11_passes tw_1261 sh_o_65 rfl rfl rfl rfl (Nat.le_of_ble_eq_true rfl) (Nat.le_of_ble_eq_true rfl) (Nat.zero_le _) (Nat.zero_le _) dX11_readsPlan_32 (fun r1 m2 => ?_)
  refine hv_aload_n hc dX11_readsPlan_35 rfl (hv_m 0 rfl) ?_
  refine hv_getR hc fl_X11_9 sh_o_65 rfl dX11_readsPlan_36 ?_
  refine hv_iconst hc dX11_readsPlan_39 ?_
  refine hv_aload_n hc dX11_readsPlan_40 rfl (hv_m 0 rfl) ?_
  refine hv_iconst hc dX11_readsPlan_41 ?_
  refine hv_iconst hc dX11_readsPlan_42 ?_
  refine hv_callVi hc (c_X11_reads 0 1 m2) yv_X11_reads tw_1270 sh_o_65 rfl rfl rfl rfl (Nat.le_of_ble_eq_true rfl) (Nat.le_of_ble_eq_true rfl) (Nat.zero_le _) (Nat.zero_le _) dX11_readsPlan_43 (fun r3 m4 => ?_)
  refine hv_iastore hc sh_a_66 (Nat.le_of_ble_eq_true rfl) dX11_readsPlan_46 (fun m5 => ?_)
  refine hv_aload_n hc dX11_readsPlan_47 rfl (hv_m 0 rfl) ?_
  refine hv_aload_n hc dX11_readsPlan_48 rfl (hv_m 0 rfl) ?_
  refine hv_getI hc fl_X11_105 sh_o_65 rfl dX11_readsPlan_49 ?_
  refine hv_if_ne (tgt := 64) hc dX11_readsPlan_52 (by decide) ?_ ?_
  · exact hv_pick [0] rfl (g_X11_readsPlan_64 hc m5)
  · refine hv_aload_n hc dX11_readsPlan_55 rfl (hv_m 0 rfl) ?_
    refine hv_ldcS (i := 2) hc (List.mem_of_getElem? (i := 10) rfl) dX11_readsPlan_56 ?_
    refine hv_callVi hc (c_X11_isWord 2 (by decide) m5) yv_X11_isWord tw_1255 sh_o_65 rfl rfl rfl rfl (Nat.le_of_ble_eq_true rfl) (Nat.le_of_ble_eq_true rfl) (Nat.zero_le _) (Nat.zero_le _) dX11_readsPlan_58 (fun r6 m7 => ?_)
    refine hv_if_eq (tgt := 68) hc dX11_readsPlan_61 (by decide) ?_ ?_
    · refine hv_iconst hc dX11_readsPlan_68 ?_
      exact hv_pick [0] rfl (g_X11_readsPlan_69 hc 0 m7)
    · exact hv_pick [0] rfl (g_X11_readsPlan_64 hc m7)
def J_X11_readsPlan_27 (mem : hMem) : hRs := J_X11_readsPlan_32 1 mem
set_option maxRecDepth 100000 in
theorem g_X11_readsPlan_27 {X : hv_X} (hc : hv_C X cX11_readsPlan 1 RX11 (none) 5 0 0) (mem : hMem) : hv_R X 1 0 0 (hv_QX X 1 0 0) (J_X11_readsPlan_27 mem) mem [] [(0, .ref (hv_ad X 65))] [.ref (hv_ad X 65)] 27 := by
  unfold J_X11_readsPlan_27
  refine hv_iconst hc dX11_readsPlan_27 ?_
  refine hv_goto (tgt := 32) hc dX11_readsPlan_28 (by decide) ?_
  exact hv_pick [0] rfl (g_X11_readsPlan_32 hc 1 mem)
def f_X11_readsPlan (mem : hMem) : hRs := hv_b (f_X11_isWord 0 mem) (fun r1 m2 => hv_b (f_X11_passes r1 m2) (fun r3 m4 => hv_eq (m4 65 10) 0 (hv_b (f_X11_isWord 1 m4) (fun r5 m6 => hv_eq r5 0 (J_X11_readsPlan_32 0 m6) (J_X11_readsPlan_27 m6))) (J_X11_readsPlan_27 m4)))
set_option maxRecDepth 100000 in
set_option maxHeartbeats 4000000 in
theorem c_X11_readsPlan (mem : hMem) : hv_Met 5 0 0 1 yX11_readsPlan cX11_readsPlan 1 (none) (fun ad _ _ => [.ref (ad 65)]) mem (f_X11_readsPlan mem) := by
  refine hv_start (by decide +kernel) (fun _ _ _ => Nat.le_of_ble_eq_true rfl) ?_
  intro X hc
  have hc : hv_C X cX11_readsPlan 1 RX11 (none) 5 0 0 := hc
  show hv_R X 1 0 0 (hv_QX X 1 0 0) (f_X11_readsPlan mem) mem [] [(0, .ref (hv_ad X 65))] [] 0
  unfold f_X11_readsPlan
  refine hv_aload_n hc dX11_readsPlan_0 rfl (hv_m 0 rfl) ?_
  refine hv_aload_n hc dX11_readsPlan_1 rfl (hv_m 0 rfl) ?_
  refine hv_ldcS (i := 0) hc (List.mem_of_getElem? (i := 8) rfl) dX11_readsPlan_2 ?_
  refine hv_callVi hc (c_X11_isWord 0 (by decide) mem) yv_X11_isWord tw_1255 sh_o_65 rfl rfl rfl rfl (Nat.le_of_ble_eq_true rfl) (Nat.le_of_ble_eq_true rfl) (Nat.zero_le _) (Nat.zero_le _) dX11_readsPlan_4 (fun r1 m2 => ?_)
  refine hv_callVv hc (c_X11_passes r1 m2) yv_X11_passes tw_1261 sh_o_65 rfl rfl rfl rfl (Nat.le_of_ble_eq_true rfl) (Nat.le_of_ble_eq_true rfl) (Nat.zero_le _) (Nat.zero_le _) dX11_readsPlan_7 (fun r3 m4 => ?_)
  refine hv_aload_n hc dX11_readsPlan_10 rfl (hv_m 0 rfl) ?_
  refine hv_aload_n hc dX11_readsPlan_11 rfl (hv_m 0 rfl) ?_
  refine hv_getI hc fl_X11_105 sh_o_65 rfl dX11_readsPlan_12 ?_
  refine hv_if_ne (tgt := 27) hc dX11_readsPlan_15 (by decide) ?_ ?_
  · exact hv_pick [0] rfl (g_X11_readsPlan_27 hc m4)
  · refine hv_aload_n hc dX11_readsPlan_18 rfl (hv_m 0 rfl) ?_
    refine hv_ldcS (i := 1) hc (List.mem_of_getElem? (i := 9) rfl) dX11_readsPlan_19 ?_
    refine hv_callVi hc (c_X11_isWord 1 (by decide) m4) yv_X11_isWord tw_1255 sh_o_65 rfl rfl rfl rfl (Nat.le_of_ble_eq_true rfl) (Nat.le_of_ble_eq_true rfl) (Nat.zero_le _) (Nat.zero_le _) dX11_readsPlan_21 (fun r5 m6 => ?_)
    refine hv_if_eq (tgt := 31) hc dX11_readsPlan_24 (by decide) ?_ ?_
    · refine hv_iconst hc dX11_readsPlan_31 ?_
      exact hv_pick [0] rfl (g_X11_readsPlan_32 hc 0 m6)
    · exact hv_pick [0] rfl (g_X11_readsPlan_27 hc m6)
def f_X11_how (mem : hMem) : hRs := hv_b (f_X11_isWord 3 mem) (fun r1 m2 => hv_eq r1 0 (hv_b (f_X11_isWord 4 m2) (fun r3 m4 => hv_eq r3 0 (hv_b (f_X11_isWord 5 m4) (fun r5 m6 => hv_eq r5 0 (hv_b (f_X11_isWord 6 m6) (fun r7 m8 => hv_eq r7 0 (hv_ret ((-1)) m8) (hv_ret 3 m8))) (hv_ret 2 m6))) (hv_ret 1 m4))) (hv_ret 0 m2))
set_option maxRecDepth 100000 in
set_option maxHeartbeats 4000000 in
theorem c_X11_how (mem : hMem) : hv_Met 5 0 0 0 yX11_how cX11_how 1 (some FieldType.int) (fun ad _ _ => [.ref (ad 65)]) mem (f_X11_how mem) := by
  refine hv_start (by decide +kernel) (fun _ _ _ => Nat.le_of_ble_eq_true rfl) ?_
  intro X hc
  have hc : hv_C X cX11_how 1 RX11 (some FieldType.int) 5 0 0 := hc
  show hv_R X 1 0 0 (hv_QX X 0 0 0) (f_X11_how mem) mem [] [(0, .ref (hv_ad X 65))] [] 0
  unfold f_X11_how
  refine hv_aload_n hc dX11_how_0 rfl (hv_m 0 rfl) ?_
  refine hv_ldcS (i := 3) hc (List.mem_of_getElem? (i := 11) rfl) dX11_how_1 ?_
  refine hv_callVi hc (c_X11_isWord 3 (by decide) mem) yv_X11_isWord tw_1255 sh_o_65 rfl rfl rfl rfl (Nat.le_of_ble_eq_true rfl) (Nat.le_of_ble_eq_true rfl) (Nat.zero_le _) (Nat.zero_le _) dX11_how_3 (fun r1 m2 => ?_)
  refine hv_if_eq (tgt := 13) hc dX11_how_6 (by decide) ?_ ?_
  · refine hv_aload_n hc dX11_how_13 rfl (hv_m 0 rfl) ?_
    refine hv_ldcS (i := 4) hc (List.mem_of_getElem? (i := 12) rfl) dX11_how_14 ?_
    refine hv_callVi hc (c_X11_isWord 4 (by decide) m2) yv_X11_isWord tw_1255 sh_o_65 rfl rfl rfl rfl (Nat.le_of_ble_eq_true rfl) (Nat.le_of_ble_eq_true rfl) (Nat.zero_le _) (Nat.zero_le _) dX11_how_16 (fun r3 m4 => ?_)
    refine hv_if_eq (tgt := 26) hc dX11_how_19 (by decide) ?_ ?_
    · refine hv_aload_n hc dX11_how_26 rfl (hv_m 0 rfl) ?_
      refine hv_ldcS (i := 5) hc (List.mem_of_getElem? (i := 13) rfl) dX11_how_27 ?_
      refine hv_callVi hc (c_X11_isWord 5 (by decide) m4) yv_X11_isWord tw_1255 sh_o_65 rfl rfl rfl rfl (Nat.le_of_ble_eq_true rfl) (Nat.le_of_ble_eq_true rfl) (Nat.zero_le _) (Nat.zero_le _) dX11_how_29 (fun r5 m6 => ?_)
      refine hv_if_eq (tgt := 39) hc dX11_how_32 (by decide) ?_ ?_
      · refine hv_aload_n hc dX11_how_39 rfl (hv_m 0 rfl) ?_
        refine hv_ldcS (i := 6) hc (List.mem_of_getElem? (i := 14) rfl) dX11_how_40 ?_
        refine hv_callVi hc (c_X11_isWord 6 (by decide) m6) yv_X11_isWord tw_1255 sh_o_65 rfl rfl rfl rfl (Nat.le_of_ble_eq_true rfl) (Nat.le_of_ble_eq_true rfl) (Nat.zero_le _) (Nat.zero_le _) dX11_how_42 (fun r7 m8 => ?_)
        refine hv_if_eq (tgt := 52) hc dX11_how_45 (by decide) ?_ ?_
        · refine hv_iconst hc dX11_how_52 ?_
          exact hv_iret hc dX11_how_53
        · refine hv_iconst hc dX11_how_48 ?_
          refine hv_goto (tgt := 53) hc dX11_how_49 (by decide) ?_
          exact hv_iret hc dX11_how_53
      · refine hv_iconst hc dX11_how_35 ?_
        refine hv_goto (tgt := 53) hc dX11_how_36 (by decide) ?_
        exact hv_iret hc dX11_how_53
    · refine hv_iconst hc dX11_how_22 ?_
      refine hv_goto (tgt := 53) hc dX11_how_23 (by decide) ?_
      exact hv_iret hc dX11_how_53
  · refine hv_iconst hc dX11_how_9 ?_
    refine hv_goto (tgt := 53) hc dX11_how_10 (by decide) ?_
    exact hv_iret hc dX11_how_53
def J_X11_makes_174 (mem : hMem) : hRs := hv_ald mem 66 216 2 (fun v1 => hv_ast mem 66 216 2 (v1 + 1) (fun m2 => hv_ret 0 m2))
set_option maxRecDepth 100000 in
theorem g_X11_makes_174 {X : hv_X} (hc : hv_C X cX11_makes 7 RX11 (none) 0 0 0) (mem : hMem) : hv_R X 7 0 0 (hv_QX X 1 0 0) (J_X11_makes_174 mem) mem [] [(0, .ref (hv_ad X 65))] [] 174 := by
  unfold J_X11_makes_174
  refine hv_aload_n hc dX11_makes_174 rfl (hv_m 0 rfl) ?_
  refine hv_getR hc fl_X11_9 sh_o_65 rfl dX11_makes_175 ?_
  refine hv_iconst hc dX11_makes_178 ?_
  refine hv_dup2 hc dX11_makes_179 rfl rfl ?_
  refine hv_iaload hc sh_a_66 (Nat.le_of_ble_eq_true rfl) dX11_makes_180 (fun v1 => ?_)
  refine hv_iconst hc dX11_makes_181 ?_
  refine hv_iadd hc dX11_makes_182 ?_
  refine hv_iastore hc sh_a_66 (Nat.le_of_ble_eq_true rfl) dX11_makes_183 (fun m2 => ?_)
  exact hv_vret hc dX11_makes_184
def J_X11_makes_109 (x1 x4 x5 x6 s1 s2 : Int) (mem : hMem) : hRs := hv_ast mem 66 216 s1 s2 (fun m1 => hv_eq x1 1 (hv_ald m1 66 216 3 (fun v2 => hv_ast m1 66 216 (96 + x6) v2 (fun m3 => hv_ald m3 66 216 3 (fun v4 => hv_ast m3 66 216 (126 + v4) x4 (fun m5 => hv_ald m5 66 216 3 (fun v6 => hv_ast m5 66 216 (156 + v6) x5 (fun m7 => hv_ald m7 66 216 3 (fun v8 => hv_ast m7 66 216 3 (v8 + 1) (fun m9 => J_X11_makes_174 m9))))))))) (J_X11_makes_174 m1))
set_option maxRecDepth 100000 in
theorem g_X11_makes_109 {X : hv_X} (hc : hv_C X cX11_makes 7 RX11 (none) 0 0 0) (x1 x4 x5 x6 s1 s2 : Int) (mem : hMem) : hv_R X 7 0 0 (hv_QX X 1 0 0) (J_X11_makes_109 x1 x4 x5 x6 s1 s2 mem) mem [] [(0, .ref (hv_ad X 65)), (1, .int (hv_I x1)), (4, .int (hv_I x4)), (5, .int (hv_I x5)), (6, .int (hv_I x6))] [.int (hv_I s2), .int (hv_I s1), .ref (hv_ad X 66)] 109 := by
  unfold J_X11_makes_109
  refine hv_iastore hc sh_a_66 (Nat.le_of_ble_eq_true rfl) dX11_makes_109 (fun m1 => ?_)
  refine hv_iload_n hc dX11_makes_110 rfl (hv_m 1 rfl) ?_
  refine hv_iconst hc dX11_makes_111 ?_
  refine hv_icmp_ne (tgt := 174) hc dX11_makes_112 (by decide) ?_ ?_
  · exact hv_pick [0] rfl (g_X11_makes_174 hc m1)
  · refine hv_aload_n hc dX11_makes_115 rfl (hv_m 0 rfl) ?_
    refine hv_getR hc fl_X11_9 sh_o_65 rfl dX11_makes_116 ?_
    refine hv_bipush hc dX11_makes_119 (by decide) ?_
    refine hv_iload hc dX11_makes_121 (hv_m 4 rfl) ?_
    refine hv_iadd hc dX11_makes_123 ?_
    refine hv_aload_n hc dX11_makes_124 rfl (hv_m 0 rfl) ?_
    refine hv_getR hc fl_X11_9 sh_o_65 rfl dX11_makes_125 ?_
    refine hv_iconst hc dX11_makes_128 ?_
    refine hv_iaload hc sh_a_66 (Nat.le_of_ble_eq_true rfl) dX11_makes_129 (fun v2 => ?_)
    refine hv_iastore hc sh_a_66 (Nat.le_of_ble_eq_true rfl) dX11_makes_130 (fun m3 => ?_)
    refine hv_aload_n hc dX11_makes_131 rfl (hv_m 0 rfl) ?_
    refine hv_getR hc fl_X11_9 sh_o_65 rfl dX11_makes_132 ?_
    refine hv_bipush hc dX11_makes_135 (by decide) ?_
    refine hv_aload_n hc dX11_makes_137 rfl (hv_m 0 rfl) ?_
    refine hv_getR hc fl_X11_9 sh_o_65 rfl dX11_makes_138 ?_
    refine hv_iconst hc dX11_makes_141 ?_
    refine hv_iaload hc sh_a_66 (Nat.le_of_ble_eq_true rfl) dX11_makes_142 (fun v4 => ?_)
    refine hv_iadd hc dX11_makes_143 ?_
    refine hv_iload hc dX11_makes_144 (hv_m 2 rfl) ?_
    refine hv_iastore hc sh_a_66 (Nat.le_of_ble_eq_true rfl) dX11_makes_146 (fun m5 => ?_)
    refine hv_aload_n hc dX11_makes_147 rfl (hv_m 0 rfl) ?_
    refine hv_getR hc fl_X11_9 sh_o_65 rfl dX11_makes_148 ?_
    refine hv_sipush hc dX11_makes_151 (by decide) ?_
    refine hv_aload_n hc dX11_makes_154 rfl (hv_m 0 rfl) ?_
    refine hv_getR hc fl_X11_9 sh_o_65 rfl dX11_makes_155 ?_
    refine hv_iconst hc dX11_makes_158 ?_
    refine hv_iaload hc sh_a_66 (Nat.le_of_ble_eq_true rfl) dX11_makes_159 (fun v6 => ?_)
    refine hv_iadd hc dX11_makes_160 ?_
    refine hv_iload hc dX11_makes_161 (hv_m 3 rfl) ?_
    refine hv_iastore hc sh_a_66 (Nat.le_of_ble_eq_true rfl) dX11_makes_163 (fun m7 => ?_)
    refine hv_aload_n hc dX11_makes_164 rfl (hv_m 0 rfl) ?_
    refine hv_getR hc fl_X11_9 sh_o_65 rfl dX11_makes_165 ?_
    refine hv_iconst hc dX11_makes_168 ?_
    refine hv_dup2 hc dX11_makes_169 rfl rfl ?_
    refine hv_iaload hc sh_a_66 (Nat.le_of_ble_eq_true rfl) dX11_makes_170 (fun v8 => ?_)
    refine hv_iconst hc dX11_makes_171 ?_
    refine hv_iadd hc dX11_makes_172 ?_
    refine hv_iastore hc sh_a_66 (Nat.le_of_ble_eq_true rfl) dX11_makes_173 (fun m9 => ?_)
    exact hv_pick [0] rfl (g_X11_makes_174 hc m9)
def J_X11_makes_108 (x1 x4 x5 x6 s1 s2 s3 : Int) (mem : hMem) : hRs := J_X11_makes_109 x1 x4 x5 x6 s1 (s2 + s3) mem
set_option maxRecDepth 100000 in
theorem g_X11_makes_108 {X : hv_X} (hc : hv_C X cX11_makes 7 RX11 (none) 0 0 0) (x1 x4 x5 x6 s1 s2 s3 : Int) (mem : hMem) : hv_R X 7 0 0 (hv_QX X 1 0 0) (J_X11_makes_108 x1 x4 x5 x6 s1 s2 s3 mem) mem [] [(0, .ref (hv_ad X 65)), (1, .int (hv_I x1)), (4, .int (hv_I x4)), (5, .int (hv_I x5)), (6, .int (hv_I x6))] [.int (hv_I s3), .int (hv_I s2), .int (hv_I s1), .ref (hv_ad X 66)] 108 := by
  unfold J_X11_makes_108
  refine hv_iadd hc dX11_makes_108 ?_
  exact hv_pick [0, 1, 2, 3, 4] rfl (g_X11_makes_109 hc x1 x4 x5 x6 s1 (s2 + s3) mem)
def f_X11_makes (x1 x2 x3 x4 x5 : Int) (mem : hMem) : hRs := hv_ald mem 66 216 2 (fun v1 => hv_ast mem 66 216 (6 + v1) x1 (fun m2 => hv_ast m2 66 216 (36 + v1) x2 (fun m3 => hv_ast m3 66 216 (66 + v1) x3 (fun m4 => hv_ast m4 66 216 (96 + v1) ((-1)) (fun m5 => hv_eq x1 0 (J_X11_makes_109 x1 x4 x5 v1 (186 + v1) 0 m5) (hv_ald m5 66 216 (186 + x2) (fun v6 => hv_eq x1 1 (J_X11_makes_108 x1 x4 x5 v1 (186 + v1) v6 1 m5) (hv_eq x1 3 (J_X11_makes_108 x1 x4 x5 v1 (186 + v1) v6 ((-1)) m5) (hv_ald m5 66 216 (186 + x3) (fun v7 => J_X11_makes_108 x1 x4 x5 v1 (186 + v1) v6 v7 m5))))))))))
set_option maxRecDepth 100000 in
set_option maxHeartbeats 4000000 in
theorem c_X11_makes (x1 x2 x3 x4 x5 : Int) (mem : hMem) : hv_Met 0 0 0 1 yX11_makes cX11_makes 7 (none) (fun ad _ _ => [.ref (ad 65), .int (hv_I x1), .int (hv_I x2), .int (hv_I x3), .int (hv_I x4), .int (hv_I x5)]) mem (f_X11_makes x1 x2 x3 x4 x5 mem) := by
  refine hv_start (by decide +kernel) (fun _ _ _ => Nat.le_of_ble_eq_true rfl) ?_
  intro X hc
  have hc : hv_C X cX11_makes 7 RX11 (none) 0 0 0 := hc
  show hv_R X 7 0 0 (hv_QX X 1 0 0) (f_X11_makes x1 x2 x3 x4 x5 mem) mem [] [(0, .ref (hv_ad X 65)), (1, .int (hv_I x1)), (2, .int (hv_I x2)), (3, .int (hv_I x3)), (4, .int (hv_I x4)), (5, .int (hv_I x5))] [] 0
  unfold f_X11_makes
  refine hv_aload_n hc dX11_makes_0 rfl (hv_m 0 rfl) ?_
  refine hv_getR hc fl_X11_9 sh_o_65 rfl dX11_makes_1 ?_
  refine hv_iconst hc dX11_makes_4 ?_
  refine hv_iaload hc sh_a_66 (Nat.le_of_ble_eq_true rfl) dX11_makes_5 (fun v1 => ?_)
  refine hv_istore (lv' := [(6, .int (hv_I v1)), (0, .ref (hv_ad X 65)), (1, .int (hv_I x1)), (2, .int (hv_I x2)), (3, .int (hv_I x3)), (4, .int (hv_I x4)), (5, .int (hv_I x5))]) hc dX11_makes_6 (by decide) rfl ?_
  refine hv_aload_n hc dX11_makes_8 rfl (hv_m 1 rfl) ?_
  refine hv_getR hc fl_X11_9 sh_o_65 rfl dX11_makes_9 ?_
  refine hv_bipush hc dX11_makes_12 (by decide) ?_
  refine hv_iload hc dX11_makes_14 (hv_m 0 rfl) ?_
  refine hv_iadd hc dX11_makes_16 ?_
  refine hv_iload_n hc dX11_makes_17 rfl (hv_m 2 rfl) ?_
  refine hv_iastore hc sh_a_66 (Nat.le_of_ble_eq_true rfl) dX11_makes_18 (fun m2 => ?_)
  refine hv_aload_n hc dX11_makes_19 rfl (hv_m 1 rfl) ?_
  refine hv_getR hc fl_X11_9 sh_o_65 rfl dX11_makes_20 ?_
  refine hv_bipush hc dX11_makes_23 (by decide) ?_
  refine hv_iload hc dX11_makes_25 (hv_m 0 rfl) ?_
  refine hv_iadd hc dX11_makes_27 ?_
  refine hv_iload_n hc dX11_makes_28 rfl (hv_m 3 rfl) ?_
  refine hv_iastore hc sh_a_66 (Nat.le_of_ble_eq_true rfl) dX11_makes_29 (fun m3 => ?_)
  refine hv_aload_n hc dX11_makes_30 rfl (hv_m 1 rfl) ?_
  refine hv_getR hc fl_X11_9 sh_o_65 rfl dX11_makes_31 ?_
  refine hv_bipush hc dX11_makes_34 (by decide) ?_
  refine hv_iload hc dX11_makes_36 (hv_m 0 rfl) ?_
  refine hv_iadd hc dX11_makes_38 ?_
  refine hv_iload_n hc dX11_makes_39 rfl (hv_m 4 rfl) ?_
  refine hv_iastore hc sh_a_66 (Nat.le_of_ble_eq_true rfl) dX11_makes_40 (fun m4 => ?_)
  refine hv_aload_n hc dX11_makes_41 rfl (hv_m 1 rfl) ?_
  refine hv_getR hc fl_X11_9 sh_o_65 rfl dX11_makes_42 ?_
  refine hv_bipush hc dX11_makes_45 (by decide) ?_
  refine hv_iload hc dX11_makes_47 (hv_m 0 rfl) ?_
  refine hv_iadd hc dX11_makes_49 ?_
  refine hv_iconst hc dX11_makes_50 ?_
  refine hv_iastore hc sh_a_66 (Nat.le_of_ble_eq_true rfl) dX11_makes_51 (fun m5 => ?_)
  refine hv_aload_n hc dX11_makes_52 rfl (hv_m 1 rfl) ?_
  refine hv_getR hc fl_X11_9 sh_o_65 rfl dX11_makes_53 ?_
  refine hv_sipush hc dX11_makes_56 (by decide) ?_
  refine hv_iload hc dX11_makes_59 (hv_m 0 rfl) ?_
  refine hv_iadd hc dX11_makes_61 ?_
  refine hv_iload_n hc dX11_makes_62 rfl (hv_m 2 rfl) ?_
  refine hv_if_ne (tgt := 70) hc dX11_makes_63 (by decide) ?_ ?_
  · refine hv_aload_n hc dX11_makes_70 rfl (hv_m 1 rfl) ?_
    refine hv_getR hc fl_X11_9 sh_o_65 rfl dX11_makes_71 ?_
    refine hv_sipush hc dX11_makes_74 (by decide) ?_
    refine hv_iload_n hc dX11_makes_77 rfl (hv_m 3 rfl) ?_
    refine hv_iadd hc dX11_makes_78 ?_
    refine hv_iaload hc sh_a_66 (Nat.le_of_ble_eq_true rfl) dX11_makes_79 (fun v6 => ?_)
    refine hv_iload_n hc dX11_makes_80 rfl (hv_m 2 rfl) ?_
    refine hv_iconst hc dX11_makes_81 ?_
    refine hv_icmp_ne (tgt := 89) hc dX11_makes_82 (by decide) ?_ ?_
    · refine hv_iload_n hc dX11_makes_89 rfl (hv_m 2 rfl) ?_
      refine hv_iconst hc dX11_makes_90 ?_
      refine hv_icmp_ne (tgt := 98) hc dX11_makes_91 (by decide) ?_ ?_
      · refine hv_aload_n hc dX11_makes_98 rfl (hv_m 1 rfl) ?_
        refine hv_getR hc fl_X11_9 sh_o_65 rfl dX11_makes_99 ?_
        refine hv_sipush hc dX11_makes_102 (by decide) ?_
        refine hv_iload_n hc dX11_makes_105 rfl (hv_m 4 rfl) ?_
        refine hv_iadd hc dX11_makes_106 ?_
        refine hv_iaload hc sh_a_66 (Nat.le_of_ble_eq_true rfl) dX11_makes_107 (fun v7 => ?_)
        exact hv_pick [1, 2, 5, 6, 0] rfl (g_X11_makes_108 hc x1 x4 x5 v1 (186 + v1) v6 v7 m5)
      · refine hv_iconst hc dX11_makes_94 ?_
        refine hv_goto (tgt := 108) hc dX11_makes_95 (by decide) ?_
        exact hv_pick [1, 2, 5, 6, 0] rfl (g_X11_makes_108 hc x1 x4 x5 v1 (186 + v1) v6 ((-1)) m5)
    · refine hv_iconst hc dX11_makes_85 ?_
      refine hv_goto (tgt := 108) hc dX11_makes_86 (by decide) ?_
      exact hv_pick [1, 2, 5, 6, 0] rfl (g_X11_makes_108 hc x1 x4 x5 v1 (186 + v1) v6 1 m5)
  · refine hv_iconst hc dX11_makes_66 ?_
    refine hv_goto (tgt := 109) hc dX11_makes_67 (by decide) ?_
    exact hv_pick [1, 2, 5, 6, 0] rfl (g_X11_makes_109 hc x1 x4 x5 v1 (186 + v1) 0 m5)
def J_X11_readsVersion__167 (x1 x2 x3 x4 x5 : Int) (mem : hMem) : hRs := hv_eq (mem 65 10) 0 (hv_b (f_X11_makes x1 x2 x3 x4 x5 mem) (fun r1 m2 => hv_ret 0 m2)) (hv_ret 0 mem)
set_option maxRecDepth 100000 in
theorem g_X11_readsVersion__167 {X : hv_X} (hc : hv_C X cX11_readsVersion_ 6 RX11 (none) 6 0 0) (x1 x2 x3 x4 x5 : Int) (mem : hMem) : hv_R X 6 0 0 (hv_QX X 1 0 0) (J_X11_readsVersion__167 x1 x2 x3 x4 x5 mem) mem [] [(0, .ref (hv_ad X 65)), (1, .int (hv_I x1)), (2, .int (hv_I x2)), (3, .int (hv_I x3)), (4, .int (hv_I x4)), (5, .int (hv_I x5))] [] 167 := by
  unfold J_X11_readsVersion__167
  refine hv_aload_n hc dX11_readsVersion__167 rfl (hv_m 0 rfl) ?_
  refine hv_getI hc fl_X11_105 sh_o_65 rfl dX11_readsVersion__168 ?_
  refine hv_if_ne (tgt := 185) hc dX11_readsVersion__171 (by decide) ?_ ?_
  · exact hv_vret hc dX11_readsVersion__185
  · refine hv_aload_n hc dX11_readsVersion__174 rfl (hv_m 0 rfl) ?_
    refine hv_iload_n hc dX11_readsVersion__175 rfl (hv_m 1 rfl) ?_
    refine hv_iload_n hc dX11_readsVersion__176 rfl (hv_m 2 rfl) ?_
    refine hv_iload_n hc dX11_readsVersion__177 rfl (hv_m 3 rfl) ?_
    refine hv_iload hc dX11_readsVersion__178 (hv_m 4 rfl) ?_
    refine hv_iload hc dX11_readsVersion__180 (hv_m 5 rfl) ?_
    refine hv_callVv hc (c_X11_makes x1 x2 x3 x4 x5 mem) yv_X11_makes tw_1292 sh_o_65 rfl rfl rfl rfl (Nat.le_of_ble_eq_true rfl) (Nat.le_of_ble_eq_true rfl) (Nat.zero_le _) (Nat.zero_le _) dX11_readsVersion__182 (fun r1 m2 => ?_)
    exact hv_vret hc dX11_readsVersion__185
def J_X11_readsVersion__155 (x1 x2 x3 x4 s1 : Int) (mem : hMem) : hRs := hv_b (f_X11_passes s1 mem) (fun r1 m2 => hv_b (f_X11_reads 1 99 m2) (fun r3 m4 => J_X11_readsVersion__167 x1 x2 x3 x4 r3 m4))
set_option maxRecDepth 100000 in
theorem g_X11_readsVersion__155 {X : hv_X} (hc : hv_C X cX11_readsVersion_ 6 RX11 (none) 6 0 0) (x1 x2 x3 x4 s1 : Int) (mem : hMem) : hv_R X 6 0 0 (hv_QX X 1 0 0) (J_X11_readsVersion__155 x1 x2 x3 x4 s1 mem) mem [] [(0, .ref (hv_ad X 65)), (1, .int (hv_I x1)), (2, .int (hv_I x2)), (3, .int (hv_I x3)), (4, .int (hv_I x4))] [.int (hv_I s1), .ref (hv_ad X 65)] 155 := by
  unfold J_X11_readsVersion__155
  refine hv_callVv hc (c_X11_passes s1 mem) yv_X11_passes tw_1261 sh_o_65 rfl rfl rfl rfl (Nat.le_of_ble_eq_true rfl) (Nat.le_of_ble_eq_true rfl) (Nat.zero_le _) (Nat.zero_le _) dX11_readsVersion__155 (fun r1 m2 => ?_)
  refine hv_aload_n hc dX11_readsVersion__158 rfl (hv_m 0 rfl) ?_
  refine hv_iconst hc dX11_readsVersion__159 ?_
  refine hv_bipush hc dX11_readsVersion__160 (by decide) ?_
  refine hv_callVi hc (c_X11_reads 1 99 m2) yv_X11_reads tw_1270 sh_o_65 rfl rfl rfl rfl (Nat.le_of_ble_eq_true rfl) (Nat.le_of_ble_eq_true rfl) (Nat.zero_le _) (Nat.zero_le _) dX11_readsVersion__162 (fun r3 m4 => ?_)
  refine hv_istore (lv' := [(5, .int (hv_I r3)), (0, .ref (hv_ad X 65)), (1, .int (hv_I x1)), (2, .int (hv_I x2)), (3, .int (hv_I x3)), (4, .int (hv_I x4))]) hc dX11_readsVersion__165 (by decide) rfl ?_
  exact hv_pick [1, 2, 3, 4, 5, 0] rfl (g_X11_readsVersion__167 hc x1 x2 x3 x4 r3 m4)
def J_X11_readsVersion__150 (x1 x2 x3 x4 : Int) (mem : hMem) : hRs := J_X11_readsVersion__155 x1 x2 x3 x4 1 mem
set_option maxRecDepth 100000 in
theorem g_X11_readsVersion__150 {X : hv_X} (hc : hv_C X cX11_readsVersion_ 6 RX11 (none) 6 0 0) (x1 x2 x3 x4 : Int) (mem : hMem) : hv_R X 6 0 0 (hv_QX X 1 0 0) (J_X11_readsVersion__150 x1 x2 x3 x4 mem) mem [] [(0, .ref (hv_ad X 65)), (1, .int (hv_I x1)), (2, .int (hv_I x2)), (3, .int (hv_I x3)), (4, .int (hv_I x4))] [.ref (hv_ad X 65)] 150 := by
  unfold J_X11_readsVersion__150
  refine hv_iconst hc dX11_readsVersion__150 ?_
  refine hv_goto (tgt := 155) hc dX11_readsVersion__151 (by decide) ?_
  exact hv_pick [0, 1, 2, 3, 4] rfl (g_X11_readsVersion__155 hc x1 x2 x3 x4 1 mem)
def J_X11_readsVersion__111 (x1 x2 x3 x4 x5 : Int) (mem : hMem) : hRs := hv_eq x1 1 (hv_eq (mem 65 10) 0 (hv_b (f_X11_reads 0 999 mem) (fun r1 m2 => hv_eq (m2 65 10) 0 (hv_b (f_X11_isWord 7 m2) (fun r3 m4 => hv_eq r3 0 (J_X11_readsVersion__155 x1 x2 x3 r1 0 m4) (J_X11_readsVersion__150 x1 x2 x3 r1 m4))) (J_X11_readsVersion__150 x1 x2 x3 r1 m2))) (J_X11_readsVersion__167 x1 x2 x3 x4 x5 mem)) (J_X11_readsVersion__167 x1 x2 x3 x4 x5 mem)
set_option maxRecDepth 100000 in
theorem g_X11_readsVersion__111 {X : hv_X} (hc : hv_C X cX11_readsVersion_ 6 RX11 (none) 6 0 0) (x1 x2 x3 x4 x5 : Int) (mem : hMem) : hv_R X 6 0 0 (hv_QX X 1 0 0) (J_X11_readsVersion__111 x1 x2 x3 x4 x5 mem) mem [] [(0, .ref (hv_ad X 65)), (1, .int (hv_I x1)), (2, .int (hv_I x2)), (3, .int (hv_I x3)), (4, .int (hv_I x4)), (5, .int (hv_I x5))] [] 111 := by
  unfold J_X11_readsVersion__111
  refine hv_iload_n hc dX11_readsVersion__111 rfl (hv_m 1 rfl) ?_
  refine hv_iconst hc dX11_readsVersion__112 ?_
  refine hv_icmp_ne (tgt := 167) hc dX11_readsVersion__113 (by decide) ?_ ?_
  · exact hv_pick [0, 1, 2, 3, 4, 5] rfl (g_X11_readsVersion__167 hc x1 x2 x3 x4 x5 mem)
  · refine hv_aload_n hc dX11_readsVersion__116 rfl (hv_m 0 rfl) ?_
    refine hv_getI hc fl_X11_105 sh_o_65 rfl dX11_readsVersion__117 ?_
    refine hv_if_ne (tgt := 167) hc dX11_readsVersion__120 (by decide) ?_ ?_
    · exact hv_pick [0, 1, 2, 3, 4, 5] rfl (g_X11_readsVersion__167 hc x1 x2 x3 x4 x5 mem)
    · refine hv_aload_n hc dX11_readsVersion__123 rfl (hv_m 0 rfl) ?_
      refine hv_iconst hc dX11_readsVersion__124 ?_
      refine hv_sipush hc dX11_readsVersion__125 (by decide) ?_
      refine hv_callVi hc (c_X11_reads 0 999 mem) yv_X11_reads tw_1270 sh_o_65 rfl rfl rfl rfl (Nat.le_of_ble_eq_true rfl) (Nat.le_of_ble_eq_true rfl) (Nat.zero_le _) (Nat.zero_le _) dX11_readsVersion__128 (fun r1 m2 => ?_)
      refine hv_istore (lv' := [(4, .int (hv_I r1)), (0, .ref (hv_ad X 65)), (1, .int (hv_I x1)), (2, .int (hv_I x2)), (3, .int (hv_I x3)), (5, .int (hv_I x5))]) hc dX11_readsVersion__131 (by decide) rfl ?_
      refine hv_aload_n hc dX11_readsVersion__133 rfl (hv_m 1 rfl) ?_
      refine hv_aload_n hc dX11_readsVersion__134 rfl (hv_m 1 rfl) ?_
      refine hv_getI hc fl_X11_105 sh_o_65 rfl dX11_readsVersion__135 ?_
      refine hv_if_ne (tgt := 150) hc dX11_readsVersion__138 (by decide) ?_ ?_
      · exact hv_pick [1, 2, 3, 4, 0] rfl (g_X11_readsVersion__150 hc x1 x2 x3 r1 m2)
      · refine hv_aload_n hc dX11_readsVersion__141 rfl (hv_m 1 rfl) ?_
        refine hv_ldcS (i := 7) hc (List.mem_of_getElem? (i := 15) rfl) dX11_readsVersion__142 ?_
        refine hv_callVi hc (c_X11_isWord 7 (by decide) m2) yv_X11_isWord tw_1255 sh_o_65 rfl rfl rfl rfl (Nat.le_of_ble_eq_true rfl) (Nat.le_of_ble_eq_true rfl) (Nat.zero_le _) (Nat.zero_le _) dX11_readsVersion__144 (fun r3 m4 => ?_)
        refine hv_if_eq (tgt := 154) hc dX11_readsVersion__147 (by decide) ?_ ?_
        · refine hv_iconst hc dX11_readsVersion__154 ?_
          exact hv_pick [1, 2, 3, 4, 0] rfl (g_X11_readsVersion__155 hc x1 x2 x3 r1 0 m4)
        · exact hv_pick [1, 2, 3, 4, 0] rfl (g_X11_readsVersion__150 hc x1 x2 x3 r1 m4)
def J_X11_readsVersion__80 (x1 x2 x3 x4 x5 : Int) (mem : hMem) : hRs := hv_eq x1 2 (hv_eq (mem 65 10) 0 (hv_ald mem 66 216 (186 + x2) (fun v1 => hv_b (f_X11_readsVersion 0 (24 - v1) mem) (fun r2 m3 => J_X11_readsVersion__111 x1 x2 r2 x4 x5 m3))) (J_X11_readsVersion__111 x1 x2 x3 x4 x5 mem)) (J_X11_readsVersion__111 x1 x2 x3 x4 x5 mem)
set_option maxRecDepth 100000 in
theorem g_X11_readsVersion__80 {X : hv_X} (hc : hv_C X cX11_readsVersion_ 6 RX11 (none) 6 0 0) (x1 x2 x3 x4 x5 : Int) (mem : hMem) : hv_R X 6 0 0 (hv_QX X 1 0 0) (J_X11_readsVersion__80 x1 x2 x3 x4 x5 mem) mem [] [(0, .ref (hv_ad X 65)), (1, .int (hv_I x1)), (2, .int (hv_I x2)), (3, .int (hv_I x3)), (4, .int (hv_I x4)), (5, .int (hv_I x5))] [] 80 := by
  unfold J_X11_readsVersion__80
  refine hv_iload_n hc dX11_readsVersion__80 rfl (hv_m 1 rfl) ?_
  refine hv_iconst hc dX11_readsVersion__81 ?_
  refine hv_icmp_ne (tgt := 111) hc dX11_readsVersion__82 (by decide) ?_ ?_
  · exact hv_pick [0, 1, 2, 3, 4, 5] rfl (g_X11_readsVersion__111 hc x1 x2 x3 x4 x5 mem)
  · refine hv_aload_n hc dX11_readsVersion__85 rfl (hv_m 0 rfl) ?_
    refine hv_getI hc fl_X11_105 sh_o_65 rfl dX11_readsVersion__86 ?_
    refine hv_if_ne (tgt := 111) hc dX11_readsVersion__89 (by decide) ?_ ?_
    · exact hv_pick [0, 1, 2, 3, 4, 5] rfl (g_X11_readsVersion__111 hc x1 x2 x3 x4 x5 mem)
    · refine hv_aload_n hc dX11_readsVersion__92 rfl (hv_m 0 rfl) ?_
      refine hv_iconst hc dX11_readsVersion__93 ?_
      refine hv_bipush hc dX11_readsVersion__94 (by decide) ?_
      refine hv_aload_n hc dX11_readsVersion__96 rfl (hv_m 0 rfl) ?_
      refine hv_getR hc fl_X11_9 sh_o_65 rfl dX11_readsVersion__97 ?_
      refine hv_sipush hc dX11_readsVersion__100 (by decide) ?_
      refine hv_iload_n hc dX11_readsVersion__103 rfl (hv_m 2 rfl) ?_
      refine hv_iadd hc dX11_readsVersion__104 ?_
      refine hv_iaload hc sh_a_66 (Nat.le_of_ble_eq_true rfl) dX11_readsVersion__105 (fun v1 => ?_)
      refine hv_isub hc dX11_readsVersion__106 ?_
      refine hv_callVi hc (c_X11_readsVersion 0 (24 - v1) mem) yv_X11_readsVersion tw_1287 sh_o_65 rfl rfl rfl rfl (Nat.le_of_ble_eq_true rfl) (Nat.le_of_ble_eq_true rfl) (Nat.zero_le _) (Nat.zero_le _) dX11_readsVersion__107 (fun r2 m3 => ?_)
      refine hv_istore_n (lv' := [(3, .int (hv_I r2)), (0, .ref (hv_ad X 65)), (1, .int (hv_I x1)), (2, .int (hv_I x2)), (4, .int (hv_I x4)), (5, .int (hv_I x5))]) hc dX11_readsVersion__110 rfl (by decide) rfl ?_
      exact hv_pick [1, 2, 3, 0, 4, 5] rfl (g_X11_readsVersion__111 hc x1 x2 r2 x4 x5 m3)
def J_X11_readsVersion__76 (x1 x3 x4 x5 s1 s2 : Int) (mem : hMem) : hRs := hv_b (f_X11_readsVersion s1 s2 mem) (fun r1 m2 => J_X11_readsVersion__80 x1 r1 x3 x4 x5 m2)
set_option maxRecDepth 100000 in
theorem g_X11_readsVersion__76 {X : hv_X} (hc : hv_C X cX11_readsVersion_ 6 RX11 (none) 6 0 0) (x1 x3 x4 x5 s1 s2 : Int) (mem : hMem) : hv_R X 6 0 0 (hv_QX X 1 0 0) (J_X11_readsVersion__76 x1 x3 x4 x5 s1 s2 mem) mem [] [(0, .ref (hv_ad X 65)), (1, .int (hv_I x1)), (3, .int (hv_I x3)), (4, .int (hv_I x4)), (5, .int (hv_I x5))] [.int (hv_I s2), .int (hv_I s1), .ref (hv_ad X 65)] 76 := by
  unfold J_X11_readsVersion__76
  refine hv_callVi hc (c_X11_readsVersion s1 s2 mem) yv_X11_readsVersion tw_1287 sh_o_65 rfl rfl rfl rfl (Nat.le_of_ble_eq_true rfl) (Nat.le_of_ble_eq_true rfl) (Nat.zero_le _) (Nat.zero_le _) dX11_readsVersion__76 (fun r1 m2 => ?_)
  refine hv_istore_n (lv' := [(2, .int (hv_I r1)), (0, .ref (hv_ad X 65)), (1, .int (hv_I x1)), (3, .int (hv_I x3)), (4, .int (hv_I x4)), (5, .int (hv_I x5))]) hc dX11_readsVersion__79 rfl (by decide) rfl ?_
  exact hv_pick [1, 2, 0, 3, 4, 5] rfl (g_X11_readsVersion__80 hc x1 r1 x3 x4 x5 m2)
def J_X11_readsVersion__64 (x1 x3 x4 x5 s1 : Int) (mem : hMem) : hRs := hv_eq x1 1 (J_X11_readsVersion__76 x1 x3 x4 x5 s1 23 mem) (J_X11_readsVersion__76 x1 x3 x4 x5 s1 24 mem)
set_option maxRecDepth 100000 in
theorem g_X11_readsVersion__64 {X : hv_X} (hc : hv_C X cX11_readsVersion_ 6 RX11 (none) 6 0 0) (x1 x3 x4 x5 s1 : Int) (mem : hMem) : hv_R X 6 0 0 (hv_QX X 1 0 0) (J_X11_readsVersion__64 x1 x3 x4 x5 s1 mem) mem [] [(0, .ref (hv_ad X 65)), (1, .int (hv_I x1)), (3, .int (hv_I x3)), (4, .int (hv_I x4)), (5, .int (hv_I x5))] [.int (hv_I s1), .ref (hv_ad X 65)] 64 := by
  unfold J_X11_readsVersion__64
  refine hv_iload_n hc dX11_readsVersion__64 rfl (hv_m 1 rfl) ?_
  refine hv_iconst hc dX11_readsVersion__65 ?_
  refine hv_icmp_ne (tgt := 74) hc dX11_readsVersion__66 (by decide) ?_ ?_
  · refine hv_bipush hc dX11_readsVersion__74 (by decide) ?_
    exact hv_pick [0, 1, 2, 3, 4] rfl (g_X11_readsVersion__76 hc x1 x3 x4 x5 s1 24 mem)
  · refine hv_bipush hc dX11_readsVersion__69 (by decide) ?_
    refine hv_goto (tgt := 76) hc dX11_readsVersion__71 (by decide) ?_
    exact hv_pick [0, 1, 2, 3, 4] rfl (g_X11_readsVersion__76 hc x1 x3 x4 x5 s1 23 mem)
def J_X11_readsVersion__34 (x1 : Int) (mem : hMem) : hRs := hv_b (f_X11_passes 1 mem) (fun r1 m2 => hv_lt 0 x1 (hv_eq x1 3 (J_X11_readsVersion__64 x1 ((-1)) 0 0 1 m2) (J_X11_readsVersion__64 x1 ((-1)) 0 0 0 m2)) (J_X11_readsVersion__80 x1 ((-1)) ((-1)) 0 0 m2))
set_option maxRecDepth 100000 in
theorem g_X11_readsVersion__34 {X : hv_X} (hc : hv_C X cX11_readsVersion_ 6 RX11 (none) 6 0 0) (x1 : Int) (mem : hMem) : hv_R X 6 0 0 (hv_QX X 1 0 0) (J_X11_readsVersion__34 x1 mem) mem [] [(0, .ref (hv_ad X 65)), (1, .int (hv_I x1))] [] 34 := by
  unfold J_X11_readsVersion__34
  refine hv_aload_n hc dX11_readsVersion__34 rfl (hv_m 0 rfl) ?_
  refine hv_iconst hc dX11_readsVersion__35 ?_
  refine hv_callVv hc (c_X11_passes 1 mem) yv_X11_passes tw_1261 sh_o_65 rfl rfl rfl rfl (Nat.le_of_ble_eq_true rfl) (Nat.le_of_ble_eq_true rfl) (Nat.zero_le _) (Nat.zero_le _) dX11_readsVersion__36 (fun r1 m2 => ?_)
  refine hv_iconst hc dX11_readsVersion__39 ?_
  refine hv_istore_n (lv' := [(2, .int (hv_I ((-1)))), (0, .ref (hv_ad X 65)), (1, .int (hv_I x1))]) hc dX11_readsVersion__40 rfl (by decide) rfl ?_
  refine hv_iconst hc dX11_readsVersion__41 ?_
  refine hv_istore_n (lv' := [(3, .int (hv_I ((-1)))), (2, .int (hv_I ((-1)))), (0, .ref (hv_ad X 65)), (1, .int (hv_I x1))]) hc dX11_readsVersion__42 rfl (by decide) rfl ?_
  refine hv_iconst hc dX11_readsVersion__43 ?_
  refine hv_istore (lv' := [(4, .int (hv_I 0)), (3, .int (hv_I ((-1)))), (2, .int (hv_I ((-1)))), (0, .ref (hv_ad X 65)), (1, .int (hv_I x1))]) hc dX11_readsVersion__44 (by decide) rfl ?_
  refine hv_iconst hc dX11_readsVersion__46 ?_
  refine hv_istore (lv' := [(5, .int (hv_I 0)), (4, .int (hv_I 0)), (3, .int (hv_I ((-1)))), (2, .int (hv_I ((-1)))), (0, .ref (hv_ad X 65)), (1, .int (hv_I x1))]) hc dX11_readsVersion__47 (by decide) rfl ?_
  refine hv_iload_n hc dX11_readsVersion__49 rfl (hv_m 5 rfl) ?_
  refine hv_if_le (tgt := 80) hc dX11_readsVersion__50 (by decide) ?_ ?_
  · exact hv_pick [4, 5, 3, 2, 1, 0] rfl (g_X11_readsVersion__80 hc x1 ((-1)) ((-1)) 0 0 m2)
  · refine hv_aload_n hc dX11_readsVersion__53 rfl (hv_m 4 rfl) ?_
    refine hv_iload_n hc dX11_readsVersion__54 rfl (hv_m 5 rfl) ?_
    refine hv_iconst hc dX11_readsVersion__55 ?_
    refine hv_icmp_ne (tgt := 63) hc dX11_readsVersion__56 (by decide) ?_ ?_
    · refine hv_iconst hc dX11_readsVersion__63 ?_
      exact hv_pick [4, 5, 2, 1, 0] rfl (g_X11_readsVersion__64 hc x1 ((-1)) 0 0 0 m2)
    · refine hv_iconst hc dX11_readsVersion__59 ?_
      refine hv_goto (tgt := 64) hc dX11_readsVersion__60 (by decide) ?_
      exact hv_pick [4, 5, 2, 1, 0] rfl (g_X11_readsVersion__64 hc x1 ((-1)) 0 0 1 m2)
def f_X11_readsVersion_ (mem : hMem) : hRs := hv_b (f_X11_how mem) (fun r1 m2 => hv_eq r1 ((-1)) (hv_b (f_X11_faults 1 m2) (fun r6 m7 => J_X11_readsVersion__34 r1 m7)) (hv_ald m2 66 216 2 (fun v3 => hv_eq v3 20 (hv_b (f_X11_faults 3 m2) (fun r4 m5 => J_X11_readsVersion__34 r1 m5)) (J_X11_readsVersion__34 r1 m2))))
set_option maxRecDepth 100000 in
set_option maxHeartbeats 4000000 in
theorem c_X11_readsVersion_ (mem : hMem) : hv_Met 6 0 0 1 yX11_readsVersion_ cX11_readsVersion_ 6 (none) (fun ad _ _ => [.ref (ad 65)]) mem (f_X11_readsVersion_ mem) := by
  refine hv_start (by decide +kernel) (fun _ _ _ => Nat.le_of_ble_eq_true rfl) ?_
  intro X hc
  have hc : hv_C X cX11_readsVersion_ 6 RX11 (none) 6 0 0 := hc
  show hv_R X 6 0 0 (hv_QX X 1 0 0) (f_X11_readsVersion_ mem) mem [] [(0, .ref (hv_ad X 65))] [] 0
  unfold f_X11_readsVersion_
  refine hv_aload_n hc dX11_readsVersion__0 rfl (hv_m 0 rfl) ?_
  refine hv_callVi hc (c_X11_how mem) yv_X11_how tw_1279 sh_o_65 rfl rfl rfl rfl (Nat.le_of_ble_eq_true rfl) (Nat.le_of_ble_eq_true rfl) (Nat.zero_le _) (Nat.zero_le _) dX11_readsVersion__1 (fun r1 m2 => ?_)
  refine hv_istore_n (lv' := [(1, .int (hv_I r1)), (0, .ref (hv_ad X 65))]) hc dX11_readsVersion__4 rfl (by decide) rfl ?_
  refine hv_iload_n hc dX11_readsVersion__5 rfl (hv_m 0 rfl) ?_
  refine hv_iconst hc dX11_readsVersion__6 ?_
  refine hv_icmp_ne (tgt := 18) hc dX11_readsVersion__7 (by decide) ?_ ?_
  · refine hv_aload_n hc dX11_readsVersion__18 rfl (hv_m 1 rfl) ?_
    refine hv_getR hc fl_X11_9 sh_o_65 rfl dX11_readsVersion__19 ?_
    refine hv_iconst hc dX11_readsVersion__22 ?_
    refine hv_iaload hc sh_a_66 (Nat.le_of_ble_eq_true rfl) dX11_readsVersion__23 (fun v3 => ?_)
    refine hv_bipush hc dX11_readsVersion__24 (by decide) ?_
    refine hv_icmp_ne (tgt := 34) hc dX11_readsVersion__26 (by decide) ?_ ?_
    · exact hv_pick [1, 0] rfl (g_X11_readsVersion__34 hc r1 m2)
    · refine hv_aload_n hc dX11_readsVersion__29 rfl (hv_m 1 rfl) ?_
      refine hv_iconst hc dX11_readsVersion__30 ?_
      refine hv_callVv hc (c_X11_faults 3 m2) yv_X11_faults tw_1265 sh_o_65 rfl rfl rfl rfl (Nat.le_of_ble_eq_true rfl) (Nat.le_of_ble_eq_true rfl) (Nat.zero_le _) (Nat.zero_le _) dX11_readsVersion__31 (fun r4 m5 => ?_)
      exact hv_pick [1, 0] rfl (g_X11_readsVersion__34 hc r1 m5)
  · refine hv_aload_n hc dX11_readsVersion__10 rfl (hv_m 1 rfl) ?_
    refine hv_iconst hc dX11_readsVersion__11 ?_
    refine hv_callVv hc (c_X11_faults 1 m2) yv_X11_faults tw_1265 sh_o_65 rfl rfl rfl rfl (Nat.le_of_ble_eq_true rfl) (Nat.le_of_ble_eq_true rfl) (Nat.zero_le _) (Nat.zero_le _) dX11_readsVersion__12 (fun r6 m7 => ?_)
    refine hv_goto (tgt := 34) hc dX11_readsVersion__15 (by decide) ?_
    exact hv_pick [1, 0] rfl (g_X11_readsVersion__34 hc r1 m7)
def B_X11_plan_133 (R133 : Int → hMem → hRs) (x1 : Int) (mem : hMem) : hRs := hv_lt x1 216 (hv_ald mem 67 216 x1 (fun v1 => hv_ast mem 66 216 x1 v1 (fun m2 => hv_set (x1 + 1) (fun y3 => R133 y3 m2)))) (hv_ret ((-4)) mem)
def L_X11_plan_133 : Nat → Int → hMem → hRs
  | 0 => fun _ _ => none
  | n + 1 => B_X11_plan_133 (L_X11_plan_133 n)
set_option maxRecDepth 100000 in
theorem gB_X11_plan_133 {X : hv_X} (hc : hv_C X cX11_plan 2 RX11 (some FieldType.int) 7 0 0) (R133 : Int → hMem → hRs) (hR133 : ∀ (x1 : Int) (mem : hMem), hv_R X 2 0 0 (hv_QX X 0 0 0) (R133 x1 mem) mem [] [(0, .ref (hv_ad X 65)), (1, .int (hv_I x1))] [] 133) (x1 : Int) (mem : hMem) : hv_R X 2 0 0 (hv_QX X 0 0 0) (B_X11_plan_133 R133 x1 mem) mem [] [(0, .ref (hv_ad X 65)), (1, .int (hv_I x1))] [] 133 := by
  unfold B_X11_plan_133
  refine hv_iload_n hc dX11_plan_133 rfl (hv_m 1 rfl) ?_
  refine hv_sipush hc dX11_plan_134 (by decide) ?_
  refine hv_icmp_ge (tgt := 158) hc dX11_plan_137 (by decide) ?_ ?_
  · refine hv_bipush hc dX11_plan_158 (by decide) ?_
    exact hv_iret hc dX11_plan_160
  · refine hv_aload_n hc dX11_plan_140 rfl (hv_m 0 rfl) ?_
    refine hv_getR hc fl_X11_9 sh_o_65 rfl dX11_plan_141 ?_
    refine hv_iload_n hc dX11_plan_144 rfl (hv_m 1 rfl) ?_
    refine hv_aload_n hc dX11_plan_145 rfl (hv_m 0 rfl) ?_
    refine hv_getR hc fl_X11_13 sh_o_65 rfl dX11_plan_146 ?_
    refine hv_iload_n hc dX11_plan_149 rfl (hv_m 1 rfl) ?_
    refine hv_iaload hc sh_a_67 (Nat.le_of_ble_eq_true rfl) dX11_plan_150 (fun v1 => ?_)
    refine hv_iastore hc sh_a_66 (Nat.le_of_ble_eq_true rfl) dX11_plan_151 (fun m2 => ?_)
    refine hv_iinc_s (lvf := fun y3 => [(1, .int (hv_I y3)), (0, .ref (hv_ad X 65))]) hc dX11_plan_152 (by decide) (hv_m 1 rfl) (fun _ => rfl) (fun y3 => ?_)
    refine hv_goto (tgt := 133) hc dX11_plan_155 (by decide) ?_
    exact hv_pick [1, 0] rfl (hR133 y3 m2)
theorem g_X11_plan_133 {X : hv_X} (hc : hv_C X cX11_plan 2 RX11 (some FieldType.int) 7 0 0) : ∀ (n : Nat) (x1 : Int) (mem : hMem), hv_R X 2 0 0 (hv_QX X 0 0 0) (L_X11_plan_133 n x1 mem) mem [] [(0, .ref (hv_ad X 65)), (1, .int (hv_I x1))] [] 133 := by
  intro n
  induction n with
  | zero => intros; exact hv_none
  | succ n ih => exact gB_X11_plan_133 hc _ ih
def J_X11_plan_119 (mem : hMem) : hRs := hv_put mem 65 3 0 (fun m1 => hv_eq (m1 65 10) 0 (hv_put m1 65 4 0 (fun m2 => hv_put m2 65 5 ((-1)) (fun m3 => hv_ald m3 66 216 2 (fun v4 => hv_ast m3 66 216 4 v4 (fun m5 => hv_ald m5 66 216 5 (fun v6 => hv_ret v6 m5)))))) (L_X11_plan_133 hv_FU 0 m1))
set_option maxRecDepth 100000 in
theorem g_X11_plan_119 {X : hv_X} (hc : hv_C X cX11_plan 2 RX11 (some FieldType.int) 7 0 0) (mem : hMem) : hv_R X 2 0 0 (hv_QX X 0 0 0) (J_X11_plan_119 mem) mem [] [(0, .ref (hv_ad X 65))] [] 119 := by
  unfold J_X11_plan_119
  refine hv_aload_n hc dX11_plan_119 rfl (hv_m 0 rfl) ?_
  refine hv_iconst hc dX11_plan_120 ?_
  refine hv_putI hc fp_X11_75 sh_o_65 rfl dX11_plan_121 (fun m1 => ?_)
  refine hv_aload_n hc dX11_plan_124 rfl (hv_m 0 rfl) ?_
  refine hv_getI hc fl_X11_105 sh_o_65 rfl dX11_plan_125 ?_
  refine hv_if_eq (tgt := 161) hc dX11_plan_128 (by decide) ?_ ?_
  · refine hv_aload_n hc dX11_plan_161 rfl (hv_m 0 rfl) ?_
    refine hv_iconst hc dX11_plan_162 ?_
    refine hv_putI hc fp_X11_109 sh_o_65 rfl dX11_plan_163 (fun m2 => ?_)
    refine hv_aload_n hc dX11_plan_166 rfl (hv_m 0 rfl) ?_
    refine hv_iconst hc dX11_plan_167 ?_
    refine hv_putI hc fp_X11_19 sh_o_65 rfl dX11_plan_168 (fun m3 => ?_)
    refine hv_aload_n hc dX11_plan_171 rfl (hv_m 0 rfl) ?_
    refine hv_getR hc fl_X11_9 sh_o_65 rfl dX11_plan_172 ?_
    refine hv_iconst hc dX11_plan_175 ?_
    refine hv_aload_n hc dX11_plan_176 rfl (hv_m 0 rfl) ?_
    refine hv_getR hc fl_X11_9 sh_o_65 rfl dX11_plan_177 ?_
    refine hv_iconst hc dX11_plan_180 ?_
    refine hv_iaload hc sh_a_66 (Nat.le_of_ble_eq_true rfl) dX11_plan_181 (fun v4 => ?_)
    refine hv_iastore hc sh_a_66 (Nat.le_of_ble_eq_true rfl) dX11_plan_182 (fun m5 => ?_)
    refine hv_aload_n hc dX11_plan_183 rfl (hv_m 0 rfl) ?_
    refine hv_getR hc fl_X11_9 sh_o_65 rfl dX11_plan_184 ?_
    refine hv_iconst hc dX11_plan_187 ?_
    refine hv_iaload hc sh_a_66 (Nat.le_of_ble_eq_true rfl) dX11_plan_188 (fun v6 => ?_)
    exact hv_iret hc dX11_plan_189
  · refine hv_iconst hc dX11_plan_131 ?_
    refine hv_istore_n (lv' := [(1, .int (hv_I 0)), (0, .ref (hv_ad X 65))]) hc dX11_plan_132 rfl (by decide) rfl ?_
    exact hv_pick [1, 0] rfl (g_X11_plan_133 hc hv_FU 0 m1)
def J_X11_plan_103 (R48 : hMem → hRs) (s1 : Int) (mem : hMem) : hRs := hv_b (f_X11_passes s1 mem) (fun r1 m2 => hv_ald m2 66 216 5 (fun v3 => hv_ast m2 66 216 5 (v3 + 1) (fun m4 => R48 m4)))
set_option maxRecDepth 100000 in
theorem g_X11_plan_103 {X : hv_X} (hc : hv_C X cX11_plan 2 RX11 (some FieldType.int) 7 0 0) (R48 : hMem → hRs) (hR48 : ∀ (mem : hMem), hv_R X 2 0 0 (hv_QX X 0 0 0) (R48 mem) mem [] [(0, .ref (hv_ad X 65))] [] 48) (s1 : Int) (mem : hMem) : hv_R X 2 0 0 (hv_QX X 0 0 0) (J_X11_plan_103 R48 s1 mem) mem [] [(0, .ref (hv_ad X 65))] [.int (hv_I s1), .ref (hv_ad X 65)] 103 := by
  unfold J_X11_plan_103
  refine hv_callVv hc (c_X11_passes s1 mem) yv_X11_passes tw_1261 sh_o_65 rfl rfl rfl rfl (Nat.le_of_ble_eq_true rfl) (Nat.le_of_ble_eq_true rfl) (Nat.zero_le _) (Nat.zero_le _) dX11_plan_103 (fun r1 m2 => ?_)
  refine hv_aload_n hc dX11_plan_106 rfl (hv_m 0 rfl) ?_
  refine hv_getR hc fl_X11_9 sh_o_65 rfl dX11_plan_107 ?_
  refine hv_iconst hc dX11_plan_110 ?_
  refine hv_dup2 hc dX11_plan_111 rfl rfl ?_
  refine hv_iaload hc sh_a_66 (Nat.le_of_ble_eq_true rfl) dX11_plan_112 (fun v3 => ?_)
  refine hv_iconst hc dX11_plan_113 ?_
  refine hv_iadd hc dX11_plan_114 ?_
  refine hv_iastore hc sh_a_66 (Nat.le_of_ble_eq_true rfl) dX11_plan_115 (fun m4 => ?_)
  refine hv_goto (tgt := 48) hc dX11_plan_116 (by decide) ?_
  exact hv_pick [0] rfl (hR48 m4)
def J_X11_plan_98 (R48 : hMem → hRs) (mem : hMem) : hRs := J_X11_plan_103 R48 1 mem
set_option maxRecDepth 100000 in
theorem g_X11_plan_98 {X : hv_X} (hc : hv_C X cX11_plan 2 RX11 (some FieldType.int) 7 0 0) (R48 : hMem → hRs) (hR48 : ∀ (mem : hMem), hv_R X 2 0 0 (hv_QX X 0 0 0) (R48 mem) mem [] [(0, .ref (hv_ad X 65))] [] 48) (mem : hMem) : hv_R X 2 0 0 (hv_QX X 0 0 0) (J_X11_plan_98 R48 mem) mem [] [(0, .ref (hv_ad X 65))] [.ref (hv_ad X 65)] 98 := by
  unfold J_X11_plan_98
  refine hv_iconst hc dX11_plan_98 ?_
  refine hv_goto (tgt := 103) hc dX11_plan_99 (by decide) ?_
  exact hv_pick [0] rfl (g_X11_plan_103 hc R48 hR48 1 mem)
def J_X11_plan_82 (R48 : hMem → hRs) (mem : hMem) : hRs := hv_eq (mem 65 10) 0 (hv_eq (mem 65 8) 3 (J_X11_plan_98 R48 mem) (J_X11_plan_103 R48 0 mem)) (J_X11_plan_98 R48 mem)
set_option maxRecDepth 100000 in
theorem g_X11_plan_82 {X : hv_X} (hc : hv_C X cX11_plan 2 RX11 (some FieldType.int) 7 0 0) (R48 : hMem → hRs) (hR48 : ∀ (mem : hMem), hv_R X 2 0 0 (hv_QX X 0 0 0) (R48 mem) mem [] [(0, .ref (hv_ad X 65))] [] 48) (mem : hMem) : hv_R X 2 0 0 (hv_QX X 0 0 0) (J_X11_plan_82 R48 mem) mem [] [(0, .ref (hv_ad X 65))] [] 82 := by
  unfold J_X11_plan_82
  refine hv_aload_n hc dX11_plan_82 rfl (hv_m 0 rfl) ?_
  refine hv_aload_n hc dX11_plan_83 rfl (hv_m 0 rfl) ?_
  refine hv_getI hc fl_X11_105 sh_o_65 rfl dX11_plan_84 ?_
  refine hv_if_ne (tgt := 98) hc dX11_plan_87 (by decide) ?_ ?_
  · exact hv_pick [0] rfl (g_X11_plan_98 hc R48 hR48 mem)
  · refine hv_aload_n hc dX11_plan_90 rfl (hv_m 0 rfl) ?_
    refine hv_getI hc fl_X11_95 sh_o_65 rfl dX11_plan_91 ?_
    refine hv_iconst hc dX11_plan_94 ?_
    refine hv_icmp_ne (tgt := 102) hc dX11_plan_95 (by decide) ?_ ?_
    · refine hv_iconst hc dX11_plan_102 ?_
      exact hv_pick [0] rfl (g_X11_plan_103 hc R48 hR48 0 mem)
    · exact hv_pick [0] rfl (g_X11_plan_98 hc R48 hR48 mem)
def B_X11_plan_48 (R48 : hMem → hRs) (mem : hMem) : hRs := hv_eq (mem 65 10) 0 (hv_eq (mem 65 8) 0 (J_X11_plan_119 mem) (hv_ald mem 66 216 5 (fun v1 => hv_eq v1 0 (hv_b (f_X11_readsPlan mem) (fun r4 m5 => J_X11_plan_82 R48 m5)) (hv_b (f_X11_readsVersion_ mem) (fun r2 m3 => J_X11_plan_82 R48 m3))))) (J_X11_plan_119 mem)
def L_X11_plan_48 : Nat → hMem → hRs
  | 0 => fun _ => none
  | n + 1 => B_X11_plan_48 (L_X11_plan_48 n)
set_option maxRecDepth 100000 in
theorem gB_X11_plan_48 {X : hv_X} (hc : hv_C X cX11_plan 2 RX11 (some FieldType.int) 7 0 0) (R48 : hMem → hRs) (hR48 : ∀ (mem : hMem), hv_R X 2 0 0 (hv_QX X 0 0 0) (R48 mem) mem [] [(0, .ref (hv_ad X 65))] [] 48) (mem : hMem) : hv_R X 2 0 0 (hv_QX X 0 0 0) (B_X11_plan_48 R48 mem) mem [] [(0, .ref (hv_ad X 65))] [] 48 := by
  unfold B_X11_plan_48
  refine hv_aload_n hc dX11_plan_48 rfl (hv_m 0 rfl) ?_
  refine hv_getI hc fl_X11_105 sh_o_65 rfl dX11_plan_49 ?_
  refine hv_if_ne (tgt := 119) hc dX11_plan_52 (by decide) ?_ ?_
  · exact hv_pick [0] rfl (g_X11_plan_119 hc mem)
  · refine hv_aload_n hc dX11_plan_55 rfl (hv_m 0 rfl) ?_
    refine hv_getI hc fl_X11_95 sh_o_65 rfl dX11_plan_56 ?_
    refine hv_if_eq (tgt := 119) hc dX11_plan_59 (by decide) ?_ ?_
    · exact hv_pick [0] rfl (g_X11_plan_119 hc mem)
    · refine hv_aload_n hc dX11_plan_62 rfl (hv_m 0 rfl) ?_
      refine hv_getR hc fl_X11_9 sh_o_65 rfl dX11_plan_63 ?_
      refine hv_iconst hc dX11_plan_66 ?_
      refine hv_iaload hc sh_a_66 (Nat.le_of_ble_eq_true rfl) dX11_plan_67 (fun v1 => ?_)
      refine hv_if_ne (tgt := 78) hc dX11_plan_68 (by decide) ?_ ?_
      · refine hv_aload_n hc dX11_plan_78 rfl (hv_m 0 rfl) ?_
        refine hv_callVv hc (c_X11_readsVersion_ mem) yv_X11_readsVersion_ tw_1275 sh_o_65 rfl rfl rfl rfl (Nat.le_of_ble_eq_true rfl) (Nat.le_of_ble_eq_true rfl) (Nat.zero_le _) (Nat.zero_le _) dX11_plan_79 (fun r2 m3 => ?_)
        exact hv_pick [0] rfl (g_X11_plan_82 hc R48 hR48 m3)
      · refine hv_aload_n hc dX11_plan_71 rfl (hv_m 0 rfl) ?_
        refine hv_callVv hc (c_X11_readsPlan mem) yv_X11_readsPlan tw_1250 sh_o_65 rfl rfl rfl rfl (Nat.le_of_ble_eq_true rfl) (Nat.le_of_ble_eq_true rfl) (Nat.zero_le _) (Nat.zero_le _) dX11_plan_72 (fun r4 m5 => ?_)
        refine hv_goto (tgt := 82) hc dX11_plan_75 (by decide) ?_
        exact hv_pick [0] rfl (g_X11_plan_82 hc R48 hR48 m5)
theorem g_X11_plan_48 {X : hv_X} (hc : hv_C X cX11_plan 2 RX11 (some FieldType.int) 7 0 0) : ∀ (n : Nat) (mem : hMem), hv_R X 2 0 0 (hv_QX X 0 0 0) (L_X11_plan_48 n mem) mem [] [(0, .ref (hv_ad X 65))] [] 48 := by
  intro n
  induction n with
  | zero => intros; exact hv_none
  | succ n ih => exact gB_X11_plan_48 hc _ ih
def B_X11_plan_2 (R2 : Int → hMem → hRs) (x1 : Int) (mem : hMem) : hRs := hv_lt x1 216 (hv_ald mem 66 216 x1 (fun v5 => hv_ast mem 67 216 x1 v5 (fun m6 => hv_ast m6 66 216 x1 0 (fun m7 => hv_set (x1 + 1) (fun y8 => R2 y8 m7))))) (hv_put mem 65 6 0 (fun m1 => hv_put m1 65 10 0 (fun m2 => hv_b (f_X11_next m2) (fun r3 m4 => L_X11_plan_48 hv_FU m4))))
def L_X11_plan_2 : Nat → Int → hMem → hRs
  | 0 => fun _ _ => none
  | n + 1 => B_X11_plan_2 (L_X11_plan_2 n)
set_option maxRecDepth 100000 in
theorem gB_X11_plan_2 {X : hv_X} (hc : hv_C X cX11_plan 2 RX11 (some FieldType.int) 7 0 0) (R2 : Int → hMem → hRs) (hR2 : ∀ (x1 : Int) (mem : hMem), hv_R X 2 0 0 (hv_QX X 0 0 0) (R2 x1 mem) mem [] [(0, .ref (hv_ad X 65)), (1, .int (hv_I x1))] [] 2) (x1 : Int) (mem : hMem) : hv_R X 2 0 0 (hv_QX X 0 0 0) (B_X11_plan_2 R2 x1 mem) mem [] [(0, .ref (hv_ad X 65)), (1, .int (hv_I x1))] [] 2 := by
  unfold B_X11_plan_2
  refine hv_iload_n hc dX11_plan_2 rfl (hv_m 1 rfl) ?_
  refine hv_sipush hc dX11_plan_3 (by decide) ?_
  refine hv_icmp_ge (tgt := 34) hc dX11_plan_6 (by decide) ?_ ?_
  · refine hv_aload_n hc dX11_plan_34 rfl (hv_m 0 rfl) ?_
    refine hv_iconst hc dX11_plan_35 ?_
    refine hv_putI hc fp_X11_82 sh_o_65 rfl dX11_plan_36 (fun m1 => ?_)
    refine hv_aload_n hc dX11_plan_39 rfl (hv_m 0 rfl) ?_
    refine hv_iconst hc dX11_plan_40 ?_
    refine hv_putZ hc fp_X11_105 sh_o_65 rfl (by decide) dX11_plan_41 (fun m2 => ?_)
    refine hv_aload_n hc dX11_plan_44 rfl (hv_m 0 rfl) ?_
    refine hv_callVv hc (c_X11_next m2) yv_X11_next tw_1240 sh_o_65 rfl rfl rfl rfl (Nat.le_of_ble_eq_true rfl) (Nat.le_of_ble_eq_true rfl) (Nat.zero_le _) (Nat.zero_le _) dX11_plan_45 (fun r3 m4 => ?_)
    exact hv_pick [0] rfl (g_X11_plan_48 hc hv_FU m4)
  · refine hv_aload_n hc dX11_plan_9 rfl (hv_m 0 rfl) ?_
    refine hv_getR hc fl_X11_13 sh_o_65 rfl dX11_plan_10 ?_
    refine hv_iload_n hc dX11_plan_13 rfl (hv_m 1 rfl) ?_
    refine hv_aload_n hc dX11_plan_14 rfl (hv_m 0 rfl) ?_
    refine hv_getR hc fl_X11_9 sh_o_65 rfl dX11_plan_15 ?_
    refine hv_iload_n hc dX11_plan_18 rfl (hv_m 1 rfl) ?_
    refine hv_iaload hc sh_a_66 (Nat.le_of_ble_eq_true rfl) dX11_plan_19 (fun v5 => ?_)
    refine hv_iastore hc sh_a_67 (Nat.le_of_ble_eq_true rfl) dX11_plan_20 (fun m6 => ?_)
    refine hv_aload_n hc dX11_plan_21 rfl (hv_m 0 rfl) ?_
    refine hv_getR hc fl_X11_9 sh_o_65 rfl dX11_plan_22 ?_
    refine hv_iload_n hc dX11_plan_25 rfl (hv_m 1 rfl) ?_
    refine hv_iconst hc dX11_plan_26 ?_
    refine hv_iastore hc sh_a_66 (Nat.le_of_ble_eq_true rfl) dX11_plan_27 (fun m7 => ?_)
    refine hv_iinc_s (lvf := fun y8 => [(1, .int (hv_I y8)), (0, .ref (hv_ad X 65))]) hc dX11_plan_28 (by decide) (hv_m 1 rfl) (fun _ => rfl) (fun y8 => ?_)
    refine hv_goto (tgt := 2) hc dX11_plan_31 (by decide) ?_
    exact hv_pick [1, 0] rfl (hR2 y8 m7)
theorem g_X11_plan_2 {X : hv_X} (hc : hv_C X cX11_plan 2 RX11 (some FieldType.int) 7 0 0) : ∀ (n : Nat) (x1 : Int) (mem : hMem), hv_R X 2 0 0 (hv_QX X 0 0 0) (L_X11_plan_2 n x1 mem) mem [] [(0, .ref (hv_ad X 65)), (1, .int (hv_I x1))] [] 2 := by
  intro n
  induction n with
  | zero => intros; exact hv_none
  | succ n ih => exact gB_X11_plan_2 hc _ ih
def f_X11_plan (mem : hMem) : hRs := L_X11_plan_2 hv_FU 0 mem
set_option maxRecDepth 100000 in
set_option maxHeartbeats 4000000 in
theorem c_X11_plan (mem : hMem) : hv_Met 7 0 0 0 yX11_plan cX11_plan 2 (some FieldType.int) (fun ad _ _ => [.ref (ad 65)]) mem (f_X11_plan mem) := by
  refine hv_start (by decide +kernel) (fun _ _ _ => Nat.le_of_ble_eq_true rfl) ?_
  intro X hc
  have hc : hv_C X cX11_plan 2 RX11 (some FieldType.int) 7 0 0 := hc
  show hv_R X 2 0 0 (hv_QX X 0 0 0) (f_X11_plan mem) mem [] [(0, .ref (hv_ad X 65))] [] 0
  unfold f_X11_plan
  refine hv_iconst hc dX11_plan_0 ?_
  refine hv_istore_n (lv' := [(1, .int (hv_I 0)), (0, .ref (hv_ad X 65))]) hc dX11_plan_1 rfl (by decide) rfl ?_
  exact hv_pick [1, 0] rfl (g_X11_plan_2 hc hv_FU 0 mem)
