def J_X2_putInto_91 (b : Nat) (x1 x2 : Int) (mem : hMem) : hRs := hv_b (f_X1_holdsOf (b + 1) x1 mem) (fun r1 m2 => hv_b (f_X1_deepOf (b + 1) x1 m2) (fun r3 m4 => hv_b (f_X1_tree (b + 1) 0 x1 0 0 r1 r3 m4) (fun r5 m6 => hv_eq (m6 b 0) 0 (hv_b (f_X1_row (b + 1) r5 x2 m6) (fun r9 m10 => hv_ret r9 m10)) (hv_b (f_X2_carry b r5 x2 m6) (fun r7 m8 => hv_ret r7 m8)))))
set_option maxRecDepth 100000 in
theorem g_X2_putInto_91 {X : hv_X} (hc : hv_C X cX2_putInto 7 RX2 (some FieldType.int) 3 0 0) (b : Nat) (hb : b = 26 ∨ b = 42) (x1 x2 : Int) (mem : hMem) : hv_R X 7 0 0 (hv_QX X 0 0 0) (J_X2_putInto_91 b x1 x2 mem) mem [] [(0, .ref (hv_ad X b)), (1, .int (hv_I x1)), (2, .int (hv_I x2))] [] 91 := by
  unfold J_X2_putInto_91
  refine hv_aload_n hc dX2_putInto_91 rfl (hv_m 0 rfl) ?_
  refine hv_getR hc fl_X2_12 (sh_X2 hb) rfl dX2_putInto_92 ?_
  refine hv_iconst hc dX2_putInto_95 ?_
  refine hv_iload_n hc dX2_putInto_96 rfl (hv_m 1 rfl) ?_
  refine hv_iconst hc dX2_putInto_97 ?_
  refine hv_iconst hc dX2_putInto_98 ?_
  refine hv_aload_n hc dX2_putInto_99 rfl (hv_m 0 rfl) ?_
  refine hv_getR hc fl_X2_12 (sh_X2 hb) rfl dX2_putInto_100 ?_
  refine hv_iload_n hc dX2_putInto_103 rfl (hv_m 1 rfl) ?_
  refine hv_callVi hc (c_X1_holdsOf (b + 1) (hv_h2c hb) x1 mem) yv_X1_holdsOf tw_727 (sh_X1 (hv_h2c hb)) rfl rfl rfl rfl (Nat.le_of_ble_eq_true rfl) (Nat.le_of_ble_eq_true rfl) (Nat.zero_le _) (Nat.zero_le _) dX2_putInto_104 (fun r1 m2 => ?_)
  refine hv_aload_n hc dX2_putInto_107 rfl (hv_m 0 rfl) ?_
  refine hv_getR hc fl_X2_12 (sh_X2 hb) rfl dX2_putInto_108 ?_
  refine hv_iload_n hc dX2_putInto_111 rfl (hv_m 1 rfl) ?_
  refine hv_callVi hc (c_X1_deepOf (b + 1) (hv_h2c hb) x1 m2) yv_X1_deepOf tw_728 (sh_X1 (hv_h2c hb)) rfl rfl rfl rfl (Nat.le_of_ble_eq_true rfl) (Nat.le_of_ble_eq_true rfl) (Nat.zero_le _) (Nat.zero_le _) dX2_putInto_112 (fun r3 m4 => ?_)
  refine hv_callVi hc (c_X1_tree (b + 1) (hv_h2c hb) 0 x1 0 0 r1 r3 m4) yv_X1_tree tw_738 (sh_X1 (hv_h2c hb)) rfl rfl rfl rfl (Nat.le_of_ble_eq_true rfl) (Nat.le_of_ble_eq_true rfl) (Nat.zero_le _) (Nat.zero_le _) dX2_putInto_115 (fun r5 m6 => ?_)
  refine hv_istore (lv' := [(6, .int (hv_I r5)), (0, .ref (hv_ad X b)), (1, .int (hv_I x1)), (2, .int (hv_I x2))]) hc dX2_putInto_118 (by decide) rfl ?_
  refine hv_aload_n hc dX2_putInto_120 rfl (hv_m 1 rfl) ?_
  refine hv_getI hc fl_X2_34 (sh_X2 hb) rfl dX2_putInto_121 ?_
  refine hv_if_ne (tgt := 140) hc dX2_putInto_124 (by decide) ?_ ?_
  · refine hv_aload_n hc dX2_putInto_140 rfl (hv_m 1 rfl) ?_
    refine hv_iload hc dX2_putInto_141 (hv_m 0 rfl) ?_
    refine hv_iload_n hc dX2_putInto_143 rfl (hv_m 3 rfl) ?_
    refine hv_callVi hc (c_X2_carry b hb r5 x2 m6) yv_X2_carry tw_746 (sh_X2 hb) rfl rfl rfl rfl (Nat.le_of_ble_eq_true rfl) (Nat.le_of_ble_eq_true rfl) (Nat.zero_le _) (Nat.zero_le _) dX2_putInto_144 (fun r7 m8 => ?_)
    exact hv_iret hc dX2_putInto_147
  · refine hv_aload_n hc dX2_putInto_127 rfl (hv_m 1 rfl) ?_
    refine hv_getR hc fl_X2_12 (sh_X2 hb) rfl dX2_putInto_128 ?_
    refine hv_iload hc dX2_putInto_131 (hv_m 0 rfl) ?_
    refine hv_iload_n hc dX2_putInto_133 rfl (hv_m 3 rfl) ?_
    refine hv_callVi hc (c_X1_row (b + 1) (hv_h2c hb) r5 x2 m6) yv_X1_row tw_723 (sh_X1 (hv_h2c hb)) rfl rfl rfl rfl (Nat.le_of_ble_eq_true rfl) (Nat.le_of_ble_eq_true rfl) (Nat.zero_le _) (Nat.zero_le _) dX2_putInto_134 (fun r9 m10 => ?_)
    refine hv_goto (tgt := 147) hc dX2_putInto_137 (by decide) ?_
    exact hv_iret hc dX2_putInto_147
def f_X2_putInto (b : Nat) (x1 x2 : Int) (mem : hMem) : hRs := hv_b (f_X1_firstOf (b + 1) x2 mem) (fun r1 m2 => hv_b (f_X1_restOf (b + 1) x2 m2) (fun r3 m4 => hv_b (f_X1_firstOf (b + 1) r3 m4) (fun r5 m6 => hv_eq (m6 b 0) 0 (hv_eq r3 0 (J_X2_putInto_91 b x1 x2 m6) (hv_b (f_X1_rankOf (b + 1) r1 m6) (fun r7 m8 => hv_b (f_X1_rankOf (b + 1) r5 m8) (fun r9 m10 => hv_eq r7 r9 (hv_b (f_X2_link b r1 r5 m10) (fun r11 m12 => hv_b (f_X2_linkBeside b r11 x1 m12) (fun r13 m14 => hv_b (f_X1_restOf (b + 1) r3 m14) (fun r15 m16 => hv_b (f_X1_row (b + 1) r13 r15 m16) (fun r17 m18 => hv_ret r17 m18))))) (J_X2_putInto_91 b x1 x2 m10))))) (J_X2_putInto_91 b x1 x2 m6))))
set_option maxRecDepth 100000 in
set_option maxHeartbeats 4000000 in
theorem c_X2_putInto (b : Nat) (hb : b = 26 ∨ b = 42) (x1 x2 : Int) (mem : hMem) : hv_Met 3 0 0 0 yX2_putInto cX2_putInto 7 (some FieldType.int) (fun ad _ _ => [.ref (ad b), .int (hv_I x1), .int (hv_I x2)]) mem (f_X2_putInto b x1 x2 mem) := by
  refine hv_start (by decide +kernel) (fun _ _ _ => Nat.le_of_ble_eq_true rfl) ?_
  intro X hc
  have hc : hv_C X cX2_putInto 7 RX2 (some FieldType.int) 3 0 0 := hc
  show hv_R X 7 0 0 (hv_QX X 0 0 0) (f_X2_putInto b x1 x2 mem) mem [] [(0, .ref (hv_ad X b)), (1, .int (hv_I x1)), (2, .int (hv_I x2))] [] 0
  unfold f_X2_putInto
  refine hv_aload_n hc dX2_putInto_0 rfl (hv_m 0 rfl) ?_
  refine hv_getR hc fl_X2_12 (sh_X2 hb) rfl dX2_putInto_1 ?_
  refine hv_iload_n hc dX2_putInto_4 rfl (hv_m 2 rfl) ?_
  refine hv_callVi hc (c_X1_firstOf (b + 1) (hv_h2c hb) x2 mem) yv_X1_firstOf tw_713 (sh_X1 (hv_h2c hb)) rfl rfl rfl rfl (Nat.le_of_ble_eq_true rfl) (Nat.le_of_ble_eq_true rfl) (Nat.zero_le _) (Nat.zero_le _) dX2_putInto_5 (fun r1 m2 => ?_)
  refine hv_istore_n (lv' := [(3, .int (hv_I r1)), (0, .ref (hv_ad X b)), (1, .int (hv_I x1)), (2, .int (hv_I x2))]) hc dX2_putInto_8 rfl (by decide) rfl ?_
  refine hv_aload_n hc dX2_putInto_9 rfl (hv_m 1 rfl) ?_
  refine hv_getR hc fl_X2_12 (sh_X2 hb) rfl dX2_putInto_10 ?_
  refine hv_iload_n hc dX2_putInto_13 rfl (hv_m 3 rfl) ?_
  refine hv_callVi hc (c_X1_restOf (b + 1) (hv_h2c hb) x2 m2) yv_X1_restOf tw_714 (sh_X1 (hv_h2c hb)) rfl rfl rfl rfl (Nat.le_of_ble_eq_true rfl) (Nat.le_of_ble_eq_true rfl) (Nat.zero_le _) (Nat.zero_le _) dX2_putInto_14 (fun r3 m4 => ?_)
  refine hv_istore (lv' := [(4, .int (hv_I r3)), (3, .int (hv_I r1)), (0, .ref (hv_ad X b)), (1, .int (hv_I x1)), (2, .int (hv_I x2))]) hc dX2_putInto_17 (by decide) rfl ?_
  refine hv_aload_n hc dX2_putInto_19 rfl (hv_m 2 rfl) ?_
  refine hv_getR hc fl_X2_12 (sh_X2 hb) rfl dX2_putInto_20 ?_
  refine hv_iload hc dX2_putInto_23 (hv_m 0 rfl) ?_
  refine hv_callVi hc (c_X1_firstOf (b + 1) (hv_h2c hb) r3 m4) yv_X1_firstOf tw_713 (sh_X1 (hv_h2c hb)) rfl rfl rfl rfl (Nat.le_of_ble_eq_true rfl) (Nat.le_of_ble_eq_true rfl) (Nat.zero_le _) (Nat.zero_le _) dX2_putInto_25 (fun r5 m6 => ?_)
  refine hv_istore (lv' := [(5, .int (hv_I r5)), (4, .int (hv_I r3)), (3, .int (hv_I r1)), (0, .ref (hv_ad X b)), (1, .int (hv_I x1)), (2, .int (hv_I x2))]) hc dX2_putInto_28 (by decide) rfl ?_
  refine hv_aload_n hc dX2_putInto_30 rfl (hv_m 3 rfl) ?_
  refine hv_getI hc fl_X2_34 (sh_X2 hb) rfl dX2_putInto_31 ?_
  refine hv_if_ne (tgt := 91) hc dX2_putInto_34 (by decide) ?_ ?_
  · exact hv_pick [3, 4, 5] rfl (g_X2_putInto_91 hc b hb x1 x2 m6)
  · refine hv_iload hc dX2_putInto_37 (hv_m 1 rfl) ?_
    refine hv_if_eq (tgt := 91) hc dX2_putInto_39 (by decide) ?_ ?_
    · exact hv_pick [3, 4, 5] rfl (g_X2_putInto_91 hc b hb x1 x2 m6)
    · refine hv_aload_n hc dX2_putInto_42 rfl (hv_m 3 rfl) ?_
      refine hv_getR hc fl_X2_12 (sh_X2 hb) rfl dX2_putInto_43 ?_
      refine hv_iload_n hc dX2_putInto_46 rfl (hv_m 2 rfl) ?_
      refine hv_callVi hc (c_X1_rankOf (b + 1) (hv_h2c hb) r1 m6) yv_X1_rankOf tw_715 (sh_X1 (hv_h2c hb)) rfl rfl rfl rfl (Nat.le_of_ble_eq_true rfl) (Nat.le_of_ble_eq_true rfl) (Nat.zero_le _) (Nat.zero_le _) dX2_putInto_47 (fun r7 m8 => ?_)
      refine hv_aload_n hc dX2_putInto_50 rfl (hv_m 3 rfl) ?_
      refine hv_getR hc fl_X2_12 (sh_X2 hb) rfl dX2_putInto_51 ?_
      refine hv_iload hc dX2_putInto_54 (hv_m 0 rfl) ?_
      refine hv_callVi hc (c_X1_rankOf (b + 1) (hv_h2c hb) r5 m8) yv_X1_rankOf tw_715 (sh_X1 (hv_h2c hb)) rfl rfl rfl rfl (Nat.le_of_ble_eq_true rfl) (Nat.le_of_ble_eq_true rfl) (Nat.zero_le _) (Nat.zero_le _) dX2_putInto_56 (fun r9 m10 => ?_)
      refine hv_icmp_ne (tgt := 91) hc dX2_putInto_59 (by decide) ?_ ?_
      · exact hv_pick [3, 4, 5] rfl (g_X2_putInto_91 hc b hb x1 x2 m10)
      · refine hv_aload_n hc dX2_putInto_62 rfl (hv_m 3 rfl) ?_
        refine hv_getR hc fl_X2_12 (sh_X2 hb) rfl dX2_putInto_63 ?_
        refine hv_aload_n hc dX2_putInto_66 rfl (hv_m 3 rfl) ?_
        refine hv_aload_n hc dX2_putInto_67 rfl (hv_m 3 rfl) ?_
        refine hv_iload_n hc dX2_putInto_68 rfl (hv_m 2 rfl) ?_
        refine hv_iload hc dX2_putInto_69 (hv_m 0 rfl) ?_
        refine hv_callVi hc (c_X2_link b hb r1 r5 m10) yv_X2_link tw_719 (sh_X2 hb) rfl rfl rfl rfl (Nat.le_of_ble_eq_true rfl) (Nat.le_of_ble_eq_true rfl) (Nat.zero_le _) (Nat.zero_le _) dX2_putInto_71 (fun r11 m12 => ?_)
        refine hv_iload_n hc dX2_putInto_74 rfl (hv_m 4 rfl) ?_
        refine hv_callVi hc (c_X2_linkBeside b hb r11 x1 m12) yv_X2_linkBeside tw_742 (sh_X2 hb) rfl rfl rfl rfl (Nat.le_of_ble_eq_true rfl) (Nat.le_of_ble_eq_true rfl) (Nat.zero_le _) (Nat.zero_le _) dX2_putInto_75 (fun r13 m14 => ?_)
        refine hv_aload_n hc dX2_putInto_78 rfl (hv_m 3 rfl) ?_
        refine hv_getR hc fl_X2_12 (sh_X2 hb) rfl dX2_putInto_79 ?_
        refine hv_iload hc dX2_putInto_82 (hv_m 1 rfl) ?_
        refine hv_callVi hc (c_X1_restOf (b + 1) (hv_h2c hb) r3 m14) yv_X1_restOf tw_714 (sh_X1 (hv_h2c hb)) rfl rfl rfl rfl (Nat.le_of_ble_eq_true rfl) (Nat.le_of_ble_eq_true rfl) (Nat.zero_le _) (Nat.zero_le _) dX2_putInto_84 (fun r15 m16 => ?_)
        refine hv_callVi hc (c_X1_row (b + 1) (hv_h2c hb) r13 r15 m16) yv_X1_row tw_723 (sh_X1 (hv_h2c hb)) rfl rfl rfl rfl (Nat.le_of_ble_eq_true rfl) (Nat.le_of_ble_eq_true rfl) (Nat.zero_le _) (Nat.zero_le _) dX2_putInto_87 (fun r17 m18 => ?_)
        exact hv_iret hc dX2_putInto_90
def f_X2_join (b : Nat) (x1 x2 : Int) (mem : hMem) : hRs := hv_eq x1 0 (hv_ret x2 mem) (hv_eq x2 0 (hv_ret x1 mem) (hv_b (f_X1_turnOf (b + 1) x2 mem) (fun r1 m2 => hv_b (f_X1_turnOf (b + 1) x1 m2) (fun r3 m4 => hv_lt r1 r3 (hv_b (f_X1_turnOf (b + 1) x2 m4) (fun r13 m14 => hv_b (f_X1_belowOf (b + 1) x2 m14) (fun r15 m16 => hv_b (f_X2_putInto b x1 r15 m16) (fun r17 m18 => hv_b (f_X1_heap (b + 1) r13 r17 m18) (fun r19 m20 => hv_ret r19 m20))))) (hv_b (f_X1_turnOf (b + 1) x1 m4) (fun r5 m6 => hv_b (f_X1_belowOf (b + 1) x1 m6) (fun r7 m8 => hv_b (f_X2_putInto b x2 r7 m8) (fun r9 m10 => hv_b (f_X1_heap (b + 1) r5 r9 m10) (fun r11 m12 => hv_ret r11 m12)))))))))
set_option maxRecDepth 100000 in
set_option maxHeartbeats 4000000 in
theorem c_X2_join (b : Nat) (hb : b = 26 ∨ b = 42) (x1 x2 : Int) (mem : hMem) : hv_Met 4 0 0 0 yX2_join cX2_join 3 (some FieldType.int) (fun ad _ _ => [.ref (ad b), .int (hv_I x1), .int (hv_I x2)]) mem (f_X2_join b x1 x2 mem) := by
  refine hv_start (by decide +kernel) (fun _ _ _ => Nat.le_of_ble_eq_true rfl) ?_
  intro X hc
  have hc : hv_C X cX2_join 3 RX2 (some FieldType.int) 4 0 0 := hc
  show hv_R X 3 0 0 (hv_QX X 0 0 0) (f_X2_join b x1 x2 mem) mem [] [(0, .ref (hv_ad X b)), (1, .int (hv_I x1)), (2, .int (hv_I x2))] [] 0
  unfold f_X2_join
  refine hv_iload_n hc dX2_join_0 rfl (hv_m 1 rfl) ?_
  refine hv_if_ne (tgt := 6) hc dX2_join_1 (by decide) ?_ ?_
  · refine hv_iload_n hc dX2_join_6 rfl (hv_m 2 rfl) ?_
    refine hv_if_ne (tgt := 12) hc dX2_join_7 (by decide) ?_ ?_
    · refine hv_aload_n hc dX2_join_12 rfl (hv_m 0 rfl) ?_
      refine hv_getR hc fl_X2_12 (sh_X2 hb) rfl dX2_join_13 ?_
      refine hv_iload_n hc dX2_join_16 rfl (hv_m 2 rfl) ?_
      refine hv_callVi hc (c_X1_turnOf (b + 1) (hv_h2c hb) x2 mem) yv_X1_turnOf tw_701 (sh_X1 (hv_h2c hb)) rfl rfl rfl rfl (Nat.le_of_ble_eq_true rfl) (Nat.le_of_ble_eq_true rfl) (Nat.zero_le _) (Nat.zero_le _) dX2_join_17 (fun r1 m2 => ?_)
      refine hv_aload_n hc dX2_join_20 rfl (hv_m 0 rfl) ?_
      refine hv_getR hc fl_X2_12 (sh_X2 hb) rfl dX2_join_21 ?_
      refine hv_iload_n hc dX2_join_24 rfl (hv_m 1 rfl) ?_
      refine hv_callVi hc (c_X1_turnOf (b + 1) (hv_h2c hb) x1 m2) yv_X1_turnOf tw_701 (sh_X1 (hv_h2c hb)) rfl rfl rfl rfl (Nat.le_of_ble_eq_true rfl) (Nat.le_of_ble_eq_true rfl) (Nat.zero_le _) (Nat.zero_le _) dX2_join_25 (fun r3 m4 => ?_)
      refine hv_icmp_ge (tgt := 60) hc dX2_join_28 (by decide) ?_ ?_
      · refine hv_aload_n hc dX2_join_60 rfl (hv_m 0 rfl) ?_
        refine hv_getR hc fl_X2_12 (sh_X2 hb) rfl dX2_join_61 ?_
        refine hv_aload_n hc dX2_join_64 rfl (hv_m 0 rfl) ?_
        refine hv_getR hc fl_X2_12 (sh_X2 hb) rfl dX2_join_65 ?_
        refine hv_iload_n hc dX2_join_68 rfl (hv_m 1 rfl) ?_
        refine hv_callVi hc (c_X1_turnOf (b + 1) (hv_h2c hb) x1 m4) yv_X1_turnOf tw_701 (sh_X1 (hv_h2c hb)) rfl rfl rfl rfl (Nat.le_of_ble_eq_true rfl) (Nat.le_of_ble_eq_true rfl) (Nat.zero_le _) (Nat.zero_le _) dX2_join_69 (fun r5 m6 => ?_)
        refine hv_aload_n hc dX2_join_72 rfl (hv_m 0 rfl) ?_
        refine hv_iload_n hc dX2_join_73 rfl (hv_m 2 rfl) ?_
        refine hv_aload_n hc dX2_join_74 rfl (hv_m 0 rfl) ?_
        refine hv_getR hc fl_X2_12 (sh_X2 hb) rfl dX2_join_75 ?_
        refine hv_iload_n hc dX2_join_78 rfl (hv_m 1 rfl) ?_
        refine hv_callVi hc (c_X1_belowOf (b + 1) (hv_h2c hb) x1 m6) yv_X1_belowOf tw_705 (sh_X1 (hv_h2c hb)) rfl rfl rfl rfl (Nat.le_of_ble_eq_true rfl) (Nat.le_of_ble_eq_true rfl) (Nat.zero_le _) (Nat.zero_le _) dX2_join_79 (fun r7 m8 => ?_)
        refine hv_callVi hc (c_X2_putInto b hb x2 r7 m8) yv_X2_putInto tw_709 (sh_X2 hb) rfl rfl rfl rfl (Nat.le_of_ble_eq_true rfl) (Nat.le_of_ble_eq_true rfl) (Nat.zero_le _) (Nat.zero_le _) dX2_join_82 (fun r9 m10 => ?_)
        refine hv_callVi hc (c_X1_heap (b + 1) (hv_h2c hb) r5 r9 m10) yv_X1_heap tw_670 (sh_X1 (hv_h2c hb)) rfl rfl rfl rfl (Nat.le_of_ble_eq_true rfl) (Nat.le_of_ble_eq_true rfl) (Nat.zero_le _) (Nat.zero_le _) dX2_join_85 (fun r11 m12 => ?_)
        exact hv_iret hc dX2_join_88
      · refine hv_aload_n hc dX2_join_31 rfl (hv_m 0 rfl) ?_
        refine hv_getR hc fl_X2_12 (sh_X2 hb) rfl dX2_join_32 ?_
        refine hv_aload_n hc dX2_join_35 rfl (hv_m 0 rfl) ?_
        refine hv_getR hc fl_X2_12 (sh_X2 hb) rfl dX2_join_36 ?_
        refine hv_iload_n hc dX2_join_39 rfl (hv_m 2 rfl) ?_
        refine hv_callVi hc (c_X1_turnOf (b + 1) (hv_h2c hb) x2 m4) yv_X1_turnOf tw_701 (sh_X1 (hv_h2c hb)) rfl rfl rfl rfl (Nat.le_of_ble_eq_true rfl) (Nat.le_of_ble_eq_true rfl) (Nat.zero_le _) (Nat.zero_le _) dX2_join_40 (fun r13 m14 => ?_)
        refine hv_aload_n hc dX2_join_43 rfl (hv_m 0 rfl) ?_
        refine hv_iload_n hc dX2_join_44 rfl (hv_m 1 rfl) ?_
        refine hv_aload_n hc dX2_join_45 rfl (hv_m 0 rfl) ?_
        refine hv_getR hc fl_X2_12 (sh_X2 hb) rfl dX2_join_46 ?_
        refine hv_iload_n hc dX2_join_49 rfl (hv_m 2 rfl) ?_
        refine hv_callVi hc (c_X1_belowOf (b + 1) (hv_h2c hb) x2 m14) yv_X1_belowOf tw_705 (sh_X1 (hv_h2c hb)) rfl rfl rfl rfl (Nat.le_of_ble_eq_true rfl) (Nat.le_of_ble_eq_true rfl) (Nat.zero_le _) (Nat.zero_le _) dX2_join_50 (fun r15 m16 => ?_)
        refine hv_callVi hc (c_X2_putInto b hb x1 r15 m16) yv_X2_putInto tw_709 (sh_X2 hb) rfl rfl rfl rfl (Nat.le_of_ble_eq_true rfl) (Nat.le_of_ble_eq_true rfl) (Nat.zero_le _) (Nat.zero_le _) dX2_join_53 (fun r17 m18 => ?_)
        refine hv_callVi hc (c_X1_heap (b + 1) (hv_h2c hb) r13 r17 m18) yv_X1_heap tw_670 (sh_X1 (hv_h2c hb)) rfl rfl rfl rfl (Nat.le_of_ble_eq_true rfl) (Nat.le_of_ble_eq_true rfl) (Nat.zero_le _) (Nat.zero_le _) dX2_join_56 (fun r19 m20 => ?_)
        exact hv_iret hc dX2_join_59
    · refine hv_iload_n hc dX2_join_10 rfl (hv_m 1 rfl) ?_
      exact hv_iret hc dX2_join_11
  · refine hv_iload_n hc dX2_join_4 rfl (hv_m 2 rfl) ?_
    exact hv_iret hc dX2_join_5
def J_X2_leastOf_67 (b : Nat) (R21 : Int → Int → Int → hMem → hRs) (x2 x3 x4 : Int) (mem : hMem) : hRs := hv_b (f_X1_restOf (b + 1) x3 mem) (fun r1 m2 => hv_set (x4 + 1) (fun y3 => R21 x2 r1 y3 m2))
set_option maxRecDepth 100000 in
theorem g_X2_leastOf_67 {X : hv_X} (hc : hv_C X cX2_leastOf 5 RX2 (some FieldType.int) 1 0 0) (b : Nat) (hb : b = 26 ∨ b = 42) (R21 : Int → Int → Int → hMem → hRs) (hR21 : ∀ (x2 x3 x4 : Int) (mem : hMem), hv_R X 5 0 0 (hv_QX X 0 0 0) (R21 x2 x3 x4 mem) mem [] [(0, .ref (hv_ad X b)), (2, .int (hv_I x2)), (3, .int (hv_I x3)), (4, .int (hv_I x4))] [] 21) (x2 x3 x4 : Int) (mem : hMem) : hv_R X 5 0 0 (hv_QX X 0 0 0) (J_X2_leastOf_67 b R21 x2 x3 x4 mem) mem [] [(0, .ref (hv_ad X b)), (2, .int (hv_I x2)), (3, .int (hv_I x3)), (4, .int (hv_I x4))] [] 67 := by
  unfold J_X2_leastOf_67
  refine hv_aload_n hc dX2_leastOf_67 rfl (hv_m 0 rfl) ?_
  refine hv_getR hc fl_X2_12 (sh_X2 hb) rfl dX2_leastOf_68 ?_
  refine hv_iload_n hc dX2_leastOf_71 rfl (hv_m 2 rfl) ?_
  refine hv_callVi hc (c_X1_restOf (b + 1) (hv_h2c hb) x3 mem) yv_X1_restOf tw_714 (sh_X1 (hv_h2c hb)) rfl rfl rfl rfl (Nat.le_of_ble_eq_true rfl) (Nat.le_of_ble_eq_true rfl) (Nat.zero_le _) (Nat.zero_le _) dX2_leastOf_72 (fun r1 m2 => ?_)
  refine hv_istore_n (lv' := [(3, .int (hv_I r1)), (0, .ref (hv_ad X b)), (2, .int (hv_I x2)), (4, .int (hv_I x4))]) hc dX2_leastOf_75 rfl (by decide) rfl ?_
  refine hv_iinc_s (lvf := fun y3 => [(4, .int (hv_I y3)), (3, .int (hv_I r1)), (0, .ref (hv_ad X b)), (2, .int (hv_I x2))]) hc dX2_leastOf_76 (by decide) (hv_m 3 rfl) (fun _ => rfl) (fun y3 => ?_)
  refine hv_goto (tgt := 21) hc dX2_leastOf_79 (by decide) ?_
  exact hv_pick [2, 3, 1, 0] rfl (hR21 x2 r1 y3 m2)
def B_X2_leastOf_21 (b : Nat) (R21 : Int → Int → Int → hMem → hRs) (x2 x3 x4 : Int) (mem : hMem) : hRs := hv_lt x4 64 (hv_eq x3 0 (hv_ret x2 mem) (hv_b (f_X1_firstOf (b + 1) x3 mem) (fun r1 m2 => hv_b (f_X1_turnOf (b + 1) r1 m2) (fun r3 m4 => hv_b (f_X1_turnOf (b + 1) x2 m4) (fun r5 m6 => hv_lt r3 r5 (hv_b (f_X1_firstOf (b + 1) x3 m6) (fun r7 m8 => J_X2_leastOf_67 b R21 r7 x3 x4 m8)) (J_X2_leastOf_67 b R21 x2 x3 x4 m6)))))) (hv_ret x2 mem)
def L_X2_leastOf_21 (b : Nat) : Nat → Int → Int → Int → hMem → hRs
  | 0 => fun _ _ _ _ => none
  | n + 1 => B_X2_leastOf_21 b (L_X2_leastOf_21 b n)
set_option maxRecDepth 100000 in
theorem gB_X2_leastOf_21 {X : hv_X} (hc : hv_C X cX2_leastOf 5 RX2 (some FieldType.int) 1 0 0) (b : Nat) (hb : b = 26 ∨ b = 42) (R21 : Int → Int → Int → hMem → hRs) (hR21 : ∀ (x2 x3 x4 : Int) (mem : hMem), hv_R X 5 0 0 (hv_QX X 0 0 0) (R21 x2 x3 x4 mem) mem [] [(0, .ref (hv_ad X b)), (2, .int (hv_I x2)), (3, .int (hv_I x3)), (4, .int (hv_I x4))] [] 21) (x2 x3 x4 : Int) (mem : hMem) : hv_R X 5 0 0 (hv_QX X 0 0 0) (B_X2_leastOf_21 b R21 x2 x3 x4 mem) mem [] [(0, .ref (hv_ad X b)), (2, .int (hv_I x2)), (3, .int (hv_I x3)), (4, .int (hv_I x4))] [] 21 := by
  unfold B_X2_leastOf_21
  refine hv_iload hc dX2_leastOf_21 (hv_m 3 rfl) ?_
  refine hv_bipush hc dX2_leastOf_23 (by decide) ?_
  refine hv_icmp_ge (tgt := 82) hc dX2_leastOf_25 (by decide) ?_ ?_
  · refine hv_iload_n hc dX2_leastOf_82 rfl (hv_m 1 rfl) ?_
    exact hv_iret hc dX2_leastOf_83
  · refine hv_iload_n hc dX2_leastOf_28 rfl (hv_m 2 rfl) ?_
    refine hv_if_eq (tgt := 82) hc dX2_leastOf_29 (by decide) ?_ ?_
    · refine hv_iload_n hc dX2_leastOf_82 rfl (hv_m 1 rfl) ?_
      exact hv_iret hc dX2_leastOf_83
    · refine hv_aload_n hc dX2_leastOf_32 rfl (hv_m 0 rfl) ?_
      refine hv_getR hc fl_X2_12 (sh_X2 hb) rfl dX2_leastOf_33 ?_
      refine hv_aload_n hc dX2_leastOf_36 rfl (hv_m 0 rfl) ?_
      refine hv_getR hc fl_X2_12 (sh_X2 hb) rfl dX2_leastOf_37 ?_
      refine hv_iload_n hc dX2_leastOf_40 rfl (hv_m 2 rfl) ?_
      refine hv_callVi hc (c_X1_firstOf (b + 1) (hv_h2c hb) x3 mem) yv_X1_firstOf tw_713 (sh_X1 (hv_h2c hb)) rfl rfl rfl rfl (Nat.le_of_ble_eq_true rfl) (Nat.le_of_ble_eq_true rfl) (Nat.zero_le _) (Nat.zero_le _) dX2_leastOf_41 (fun r1 m2 => ?_)
      refine hv_callVi hc (c_X1_turnOf (b + 1) (hv_h2c hb) r1 m2) yv_X1_turnOf tw_701 (sh_X1 (hv_h2c hb)) rfl rfl rfl rfl (Nat.le_of_ble_eq_true rfl) (Nat.le_of_ble_eq_true rfl) (Nat.zero_le _) (Nat.zero_le _) dX2_leastOf_44 (fun r3 m4 => ?_)
      refine hv_aload_n hc dX2_leastOf_47 rfl (hv_m 0 rfl) ?_
      refine hv_getR hc fl_X2_12 (sh_X2 hb) rfl dX2_leastOf_48 ?_
      refine hv_iload_n hc dX2_leastOf_51 rfl (hv_m 1 rfl) ?_
      refine hv_callVi hc (c_X1_turnOf (b + 1) (hv_h2c hb) x2 m4) yv_X1_turnOf tw_701 (sh_X1 (hv_h2c hb)) rfl rfl rfl rfl (Nat.le_of_ble_eq_true rfl) (Nat.le_of_ble_eq_true rfl) (Nat.zero_le _) (Nat.zero_le _) dX2_leastOf_52 (fun r5 m6 => ?_)
      refine hv_icmp_ge (tgt := 67) hc dX2_leastOf_55 (by decide) ?_ ?_
      · exact hv_pick [0, 1, 2, 3] rfl (g_X2_leastOf_67 hc b hb R21 hR21 x2 x3 x4 m6)
      · refine hv_aload_n hc dX2_leastOf_58 rfl (hv_m 0 rfl) ?_
        refine hv_getR hc fl_X2_12 (sh_X2 hb) rfl dX2_leastOf_59 ?_
        refine hv_iload_n hc dX2_leastOf_62 rfl (hv_m 2 rfl) ?_
        refine hv_callVi hc (c_X1_firstOf (b + 1) (hv_h2c hb) x3 m6) yv_X1_firstOf tw_713 (sh_X1 (hv_h2c hb)) rfl rfl rfl rfl (Nat.le_of_ble_eq_true rfl) (Nat.le_of_ble_eq_true rfl) (Nat.zero_le _) (Nat.zero_le _) dX2_leastOf_63 (fun r7 m8 => ?_)
        refine hv_istore_n (lv' := [(2, .int (hv_I r7)), (0, .ref (hv_ad X b)), (3, .int (hv_I x3)), (4, .int (hv_I x4))]) hc dX2_leastOf_66 rfl (by decide) rfl ?_
        exact hv_pick [1, 0, 2, 3] rfl (g_X2_leastOf_67 hc b hb R21 hR21 r7 x3 x4 m8)
theorem g_X2_leastOf_21 {X : hv_X} (hc : hv_C X cX2_leastOf 5 RX2 (some FieldType.int) 1 0 0) (b : Nat) (hb : b = 26 ∨ b = 42) : ∀ (n : Nat) (x2 x3 x4 : Int) (mem : hMem), hv_R X 5 0 0 (hv_QX X 0 0 0) (L_X2_leastOf_21 b n x2 x3 x4 mem) mem [] [(0, .ref (hv_ad X b)), (2, .int (hv_I x2)), (3, .int (hv_I x3)), (4, .int (hv_I x4))] [] 21 := by
  intro n
  induction n with
  | zero => intros; exact hv_none
  | succ n ih => exact gB_X2_leastOf_21 hc b hb _ ih
def f_X2_leastOf (b : Nat) (x1 : Int) (mem : hMem) : hRs := hv_b (f_X1_firstOf (b + 1) x1 mem) (fun r1 m2 => hv_b (f_X1_restOf (b + 1) x1 m2) (fun r3 m4 => L_X2_leastOf_21 b hv_FU r1 r3 0 m4))
set_option maxRecDepth 100000 in
set_option maxHeartbeats 4000000 in
theorem c_X2_leastOf (b : Nat) (hb : b = 26 ∨ b = 42) (x1 : Int) (mem : hMem) : hv_Met 1 0 0 0 yX2_leastOf cX2_leastOf 5 (some FieldType.int) (fun ad _ _ => [.ref (ad b), .int (hv_I x1)]) mem (f_X2_leastOf b x1 mem) := by
  refine hv_start (by decide +kernel) (fun _ _ _ => Nat.le_of_ble_eq_true rfl) ?_
  intro X hc
  have hc : hv_C X cX2_leastOf 5 RX2 (some FieldType.int) 1 0 0 := hc
  show hv_R X 5 0 0 (hv_QX X 0 0 0) (f_X2_leastOf b x1 mem) mem [] [(0, .ref (hv_ad X b)), (1, .int (hv_I x1))] [] 0
  unfold f_X2_leastOf
  refine hv_aload_n hc dX2_leastOf_0 rfl (hv_m 0 rfl) ?_
  refine hv_getR hc fl_X2_12 (sh_X2 hb) rfl dX2_leastOf_1 ?_
  refine hv_iload_n hc dX2_leastOf_4 rfl (hv_m 1 rfl) ?_
  refine hv_callVi hc (c_X1_firstOf (b + 1) (hv_h2c hb) x1 mem) yv_X1_firstOf tw_713 (sh_X1 (hv_h2c hb)) rfl rfl rfl rfl (Nat.le_of_ble_eq_true rfl) (Nat.le_of_ble_eq_true rfl) (Nat.zero_le _) (Nat.zero_le _) dX2_leastOf_5 (fun r1 m2 => ?_)
  refine hv_istore_n (lv' := [(2, .int (hv_I r1)), (0, .ref (hv_ad X b)), (1, .int (hv_I x1))]) hc dX2_leastOf_8 rfl (by decide) rfl ?_
  refine hv_aload_n hc dX2_leastOf_9 rfl (hv_m 1 rfl) ?_
  refine hv_getR hc fl_X2_12 (sh_X2 hb) rfl dX2_leastOf_10 ?_
  refine hv_iload_n hc dX2_leastOf_13 rfl (hv_m 2 rfl) ?_
  refine hv_callVi hc (c_X1_restOf (b + 1) (hv_h2c hb) x1 m2) yv_X1_restOf tw_714 (sh_X1 (hv_h2c hb)) rfl rfl rfl rfl (Nat.le_of_ble_eq_true rfl) (Nat.le_of_ble_eq_true rfl) (Nat.zero_le _) (Nat.zero_le _) dX2_leastOf_14 (fun r3 m4 => ?_)
  refine hv_istore_n (lv' := [(3, .int (hv_I r3)), (2, .int (hv_I r1)), (0, .ref (hv_ad X b)), (1, .int (hv_I x1))]) hc dX2_leastOf_17 rfl (by decide) rfl ?_
  refine hv_iconst hc dX2_leastOf_18 ?_
  refine hv_istore (lv' := [(4, .int (hv_I 0)), (3, .int (hv_I r3)), (2, .int (hv_I r1)), (0, .ref (hv_ad X b)), (1, .int (hv_I x1))]) hc dX2_leastOf_19 (by decide) rfl ?_
  exact hv_pick [3, 2, 1, 0] rfl (g_X2_leastOf_21 hc b hb hv_FU r1 r3 0 m4)
def B_X2_turned_7 (b : Nat) (R7 : Int → Int → Int → hMem → hRs) (x2 x3 x4 : Int) (mem : hMem) : hRs := hv_lt x4 64 (hv_eq x3 0 (hv_ret x2 mem) (hv_b (f_X1_firstOf (b + 1) x3 mem) (fun r1 m2 => hv_b (f_X1_row (b + 1) r1 x2 m2) (fun r3 m4 => hv_b (f_X1_restOf (b + 1) x3 m4) (fun r5 m6 => hv_set (x4 + 1) (fun y7 => R7 r3 r5 y7 m6)))))) (hv_ret x2 mem)
def L_X2_turned_7 (b : Nat) : Nat → Int → Int → Int → hMem → hRs
  | 0 => fun _ _ _ _ => none
  | n + 1 => B_X2_turned_7 b (L_X2_turned_7 b n)
set_option maxRecDepth 100000 in
theorem gB_X2_turned_7 {X : hv_X} (hc : hv_C X cX2_turned 5 RX2 (some FieldType.int) 1 0 0) (b : Nat) (hb : b = 26 ∨ b = 42) (R7 : Int → Int → Int → hMem → hRs) (hR7 : ∀ (x2 x3 x4 : Int) (mem : hMem), hv_R X 5 0 0 (hv_QX X 0 0 0) (R7 x2 x3 x4 mem) mem [] [(0, .ref (hv_ad X b)), (2, .int (hv_I x2)), (3, .int (hv_I x3)), (4, .int (hv_I x4))] [] 7) (x2 x3 x4 : Int) (mem : hMem) : hv_R X 5 0 0 (hv_QX X 0 0 0) (B_X2_turned_7 b R7 x2 x3 x4 mem) mem [] [(0, .ref (hv_ad X b)), (2, .int (hv_I x2)), (3, .int (hv_I x3)), (4, .int (hv_I x4))] [] 7 := by
  unfold B_X2_turned_7
  refine hv_iload hc dX2_turned_7 (hv_m 3 rfl) ?_
  refine hv_bipush hc dX2_turned_9 (by decide) ?_
  refine hv_icmp_ge (tgt := 50) hc dX2_turned_11 (by decide) ?_ ?_
  · refine hv_iload_n hc dX2_turned_50 rfl (hv_m 1 rfl) ?_
    exact hv_iret hc dX2_turned_51
  · refine hv_iload_n hc dX2_turned_14 rfl (hv_m 2 rfl) ?_
    refine hv_if_eq (tgt := 50) hc dX2_turned_15 (by decide) ?_ ?_
    · refine hv_iload_n hc dX2_turned_50 rfl (hv_m 1 rfl) ?_
      exact hv_iret hc dX2_turned_51
    · refine hv_aload_n hc dX2_turned_18 rfl (hv_m 0 rfl) ?_
      refine hv_getR hc fl_X2_12 (sh_X2 hb) rfl dX2_turned_19 ?_
      refine hv_aload_n hc dX2_turned_22 rfl (hv_m 0 rfl) ?_
      refine hv_getR hc fl_X2_12 (sh_X2 hb) rfl dX2_turned_23 ?_
      refine hv_iload_n hc dX2_turned_26 rfl (hv_m 2 rfl) ?_
      refine hv_callVi hc (c_X1_firstOf (b + 1) (hv_h2c hb) x3 mem) yv_X1_firstOf tw_713 (sh_X1 (hv_h2c hb)) rfl rfl rfl rfl (Nat.le_of_ble_eq_true rfl) (Nat.le_of_ble_eq_true rfl) (Nat.zero_le _) (Nat.zero_le _) dX2_turned_27 (fun r1 m2 => ?_)
      refine hv_iload_n hc dX2_turned_30 rfl (hv_m 1 rfl) ?_
      refine hv_callVi hc (c_X1_row (b + 1) (hv_h2c hb) r1 x2 m2) yv_X1_row tw_723 (sh_X1 (hv_h2c hb)) rfl rfl rfl rfl (Nat.le_of_ble_eq_true rfl) (Nat.le_of_ble_eq_true rfl) (Nat.zero_le _) (Nat.zero_le _) dX2_turned_31 (fun r3 m4 => ?_)
      refine hv_istore_n (lv' := [(2, .int (hv_I r3)), (0, .ref (hv_ad X b)), (3, .int (hv_I x3)), (4, .int (hv_I x4))]) hc dX2_turned_34 rfl (by decide) rfl ?_
      refine hv_aload_n hc dX2_turned_35 rfl (hv_m 1 rfl) ?_
      refine hv_getR hc fl_X2_12 (sh_X2 hb) rfl dX2_turned_36 ?_
      refine hv_iload_n hc dX2_turned_39 rfl (hv_m 2 rfl) ?_
      refine hv_callVi hc (c_X1_restOf (b + 1) (hv_h2c hb) x3 m4) yv_X1_restOf tw_714 (sh_X1 (hv_h2c hb)) rfl rfl rfl rfl (Nat.le_of_ble_eq_true rfl) (Nat.le_of_ble_eq_true rfl) (Nat.zero_le _) (Nat.zero_le _) dX2_turned_40 (fun r5 m6 => ?_)
      refine hv_istore_n (lv' := [(3, .int (hv_I r5)), (2, .int (hv_I r3)), (0, .ref (hv_ad X b)), (4, .int (hv_I x4))]) hc dX2_turned_43 rfl (by decide) rfl ?_
      refine hv_iinc_s (lvf := fun y7 => [(4, .int (hv_I y7)), (3, .int (hv_I r5)), (2, .int (hv_I r3)), (0, .ref (hv_ad X b))]) hc dX2_turned_44 (by decide) (hv_m 3 rfl) (fun _ => rfl) (fun y7 => ?_)
      refine hv_goto (tgt := 7) hc dX2_turned_47 (by decide) ?_
      exact hv_pick [3, 2, 1, 0] rfl (hR7 r3 r5 y7 m6)
theorem g_X2_turned_7 {X : hv_X} (hc : hv_C X cX2_turned 5 RX2 (some FieldType.int) 1 0 0) (b : Nat) (hb : b = 26 ∨ b = 42) : ∀ (n : Nat) (x2 x3 x4 : Int) (mem : hMem), hv_R X 5 0 0 (hv_QX X 0 0 0) (L_X2_turned_7 b n x2 x3 x4 mem) mem [] [(0, .ref (hv_ad X b)), (2, .int (hv_I x2)), (3, .int (hv_I x3)), (4, .int (hv_I x4))] [] 7 := by
  intro n
  induction n with
  | zero => intros; exact hv_none
  | succ n ih => exact gB_X2_turned_7 hc b hb _ ih
def f_X2_turned (b : Nat) (x1 : Int) (mem : hMem) : hRs := L_X2_turned_7 b hv_FU 0 x1 0 mem
set_option maxRecDepth 100000 in
set_option maxHeartbeats 4000000 in
theorem c_X2_turned (b : Nat) (hb : b = 26 ∨ b = 42) (x1 : Int) (mem : hMem) : hv_Met 1 0 0 0 yX2_turned cX2_turned 5 (some FieldType.int) (fun ad _ _ => [.ref (ad b), .int (hv_I x1)]) mem (f_X2_turned b x1 mem) := by
  refine hv_start (by decide +kernel) (fun _ _ _ => Nat.le_of_ble_eq_true rfl) ?_
  intro X hc
  have hc : hv_C X cX2_turned 5 RX2 (some FieldType.int) 1 0 0 := hc
  show hv_R X 5 0 0 (hv_QX X 0 0 0) (f_X2_turned b x1 mem) mem [] [(0, .ref (hv_ad X b)), (1, .int (hv_I x1))] [] 0
  unfold f_X2_turned
  refine hv_iconst hc dX2_turned_0 ?_
  refine hv_istore_n (lv' := [(2, .int (hv_I 0)), (0, .ref (hv_ad X b)), (1, .int (hv_I x1))]) hc dX2_turned_1 rfl (by decide) rfl ?_
  refine hv_iload_n hc dX2_turned_2 rfl (hv_m 2 rfl) ?_
  refine hv_istore_n (lv' := [(3, .int (hv_I x1)), (2, .int (hv_I 0)), (0, .ref (hv_ad X b)), (1, .int (hv_I x1))]) hc dX2_turned_3 rfl (by decide) rfl ?_
  refine hv_iconst hc dX2_turned_4 ?_
  refine hv_istore (lv' := [(4, .int (hv_I 0)), (3, .int (hv_I x1)), (2, .int (hv_I 0)), (0, .ref (hv_ad X b)), (1, .int (hv_I x1))]) hc dX2_turned_5 (by decide) rfl ?_
  exact hv_pick [3, 2, 1, 0] rfl (g_X2_turned_7 hc b hb hv_FU 0 x1 0 mem)
def B_X2_allBut_79 (b : Nat) (R79 : Int → Int → hMem → hRs) (x5 x6 : Int) (mem : hMem) : hRs := hv_lt x6 0 (hv_ret x5 mem) (hv_b (f_X10_at (b + 15) 64 x6 mem) (fun r1 m2 => hv_b (f_X1_row (b + 1) r1 x5 m2) (fun r3 m4 => hv_set (x6 + (-1)) (fun y5 => R79 r3 y5 m4))))
def L_X2_allBut_79 (b : Nat) : Nat → Int → Int → hMem → hRs
  | 0 => fun _ _ _ => none
  | n + 1 => B_X2_allBut_79 b (L_X2_allBut_79 b n)
set_option maxRecDepth 100000 in
theorem gB_X2_allBut_79 {X : hv_X} (hc : hv_C X cX2_allBut 7 RX2 (some FieldType.int) 1 0 0) (b : Nat) (hb : b = 26 ∨ b = 42) (R79 : Int → Int → hMem → hRs) (hR79 : ∀ (x5 x6 : Int) (mem : hMem), hv_R X 7 0 0 (hv_QX X 0 0 0) (R79 x5 x6 mem) mem [] [(0, .ref (hv_ad X b)), (5, .int (hv_I x5)), (6, .int (hv_I x6))] [] 79) (x5 x6 : Int) (mem : hMem) : hv_R X 7 0 0 (hv_QX X 0 0 0) (B_X2_allBut_79 b R79 x5 x6 mem) mem [] [(0, .ref (hv_ad X b)), (5, .int (hv_I x5)), (6, .int (hv_I x6))] [] 79 := by
  unfold B_X2_allBut_79
  refine hv_iload hc dX2_allBut_79 (hv_m 2 rfl) ?_
  refine hv_if_lt (tgt := 110) hc dX2_allBut_81 (by decide) ?_ ?_
  · refine hv_iload hc dX2_allBut_110 (hv_m 1 rfl) ?_
    exact hv_iret hc dX2_allBut_112
  · refine hv_aload_n hc dX2_allBut_84 rfl (hv_m 0 rfl) ?_
    refine hv_getR hc fl_X2_12 (sh_X2 hb) rfl dX2_allBut_85 ?_
    refine hv_aload_n hc dX2_allBut_88 rfl (hv_m 0 rfl) ?_
    refine hv_getR hc fl_X2_31 (sh_X2 hb) rfl dX2_allBut_89 ?_
    refine hv_iload hc dX2_allBut_92 (hv_m 2 rfl) ?_
    refine hv_callSNi hc (c_X10_at (b + 15) 64 (sh_X2_15 hb) (Nat.le_of_ble_eq_true rfl) x6 mem) ys_X10_at nl_10 rfl rfl rfl (Nat.le_of_ble_eq_true rfl) (Nat.le_of_ble_eq_true rfl) (Nat.zero_le _) (Nat.zero_le _) dX2_allBut_94 (fun r1 m2 => ?_)
    refine hv_iload hc dX2_allBut_97 (hv_m 1 rfl) ?_
    refine hv_callVi hc (c_X1_row (b + 1) (hv_h2c hb) r1 x5 m2) yv_X1_row tw_723 (sh_X1 (hv_h2c hb)) rfl rfl rfl rfl (Nat.le_of_ble_eq_true rfl) (Nat.le_of_ble_eq_true rfl) (Nat.zero_le _) (Nat.zero_le _) dX2_allBut_99 (fun r3 m4 => ?_)
    refine hv_istore (lv' := [(5, .int (hv_I r3)), (0, .ref (hv_ad X b)), (6, .int (hv_I x6))]) hc dX2_allBut_102 (by decide) rfl ?_
    refine hv_iinc_s (lvf := fun y5 => [(6, .int (hv_I y5)), (5, .int (hv_I r3)), (0, .ref (hv_ad X b))]) hc dX2_allBut_104 (by decide) (hv_m 2 rfl) (fun _ => rfl) (fun y5 => ?_)
    refine hv_goto (tgt := 79) hc dX2_allBut_107 (by decide) ?_
    exact hv_pick [2, 1, 0] rfl (hR79 r3 y5 m4)
theorem g_X2_allBut_79 {X : hv_X} (hc : hv_C X cX2_allBut 7 RX2 (some FieldType.int) 1 0 0) (b : Nat) (hb : b = 26 ∨ b = 42) : ∀ (n : Nat) (x5 x6 : Int) (mem : hMem), hv_R X 7 0 0 (hv_QX X 0 0 0) (L_X2_allBut_79 b n x5 x6 mem) mem [] [(0, .ref (hv_ad X b)), (5, .int (hv_I x5)), (6, .int (hv_I x6))] [] 79 := by
  intro n
  induction n with
  | zero => intros; exact hv_none
  | succ n ih => exact gB_X2_allBut_79 hc b hb _ ih
def J_X2_allBut_63 (b : Nat) (x3 x4 : Int) (mem : hMem) : hRs := hv_b (f_X1_restOf (b + 1) x4 mem) (fun r1 m2 => hv_set (x3 - 1) (fun y3 => L_X2_allBut_79 b hv_FU r1 y3 m2))
set_option maxRecDepth 100000 in
theorem g_X2_allBut_63 {X : hv_X} (hc : hv_C X cX2_allBut 7 RX2 (some FieldType.int) 1 0 0) (b : Nat) (hb : b = 26 ∨ b = 42) (x3 x4 : Int) (mem : hMem) : hv_R X 7 0 0 (hv_QX X 0 0 0) (J_X2_allBut_63 b x3 x4 mem) mem [] [(0, .ref (hv_ad X b)), (3, .int (hv_I x3)), (4, .int (hv_I x4))] [] 63 := by
  unfold J_X2_allBut_63
  refine hv_aload_n hc dX2_allBut_63 rfl (hv_m 0 rfl) ?_
  refine hv_getR hc fl_X2_12 (sh_X2 hb) rfl dX2_allBut_64 ?_
  refine hv_iload hc dX2_allBut_67 (hv_m 2 rfl) ?_
  refine hv_callVi hc (c_X1_restOf (b + 1) (hv_h2c hb) x4 mem) yv_X1_restOf tw_714 (sh_X1 (hv_h2c hb)) rfl rfl rfl rfl (Nat.le_of_ble_eq_true rfl) (Nat.le_of_ble_eq_true rfl) (Nat.zero_le _) (Nat.zero_le _) dX2_allBut_69 (fun r1 m2 => ?_)
  refine hv_istore (lv' := [(5, .int (hv_I r1)), (0, .ref (hv_ad X b)), (3, .int (hv_I x3)), (4, .int (hv_I x4))]) hc dX2_allBut_72 (by decide) rfl ?_
  refine hv_iload_n hc dX2_allBut_74 rfl (hv_m 2 rfl) ?_
  refine hv_iconst hc dX2_allBut_75 ?_
  refine hv_isub hc dX2_allBut_76 ?_
  refine hv_istore_s (lvf := fun y3 => [(6, .int (hv_I y3)), (5, .int (hv_I r1)), (0, .ref (hv_ad X b)), (3, .int (hv_I x3)), (4, .int (hv_I x4))]) hc dX2_allBut_77 (by decide) (fun _ => rfl) (fun y3 => ?_)
  exact hv_pick [2, 1, 0] rfl (g_X2_allBut_79 hc b hb hv_FU r1 y3 m2)
def B_X2_allBut_5 (b : Nat) (R5 : Int → Int → Int → hMem → hRs) (x2 x3 x4 : Int) (mem : hMem) : hRs := hv_lt x3 64 (hv_eq x4 0 (J_X2_allBut_63 b x3 x4 mem) (hv_b (f_X1_firstOf (b + 1) x4 mem) (fun r1 m2 => hv_eq r1 x2 (J_X2_allBut_63 b x3 x4 m2) (hv_b (f_X1_firstOf (b + 1) x4 m2) (fun r3 m4 => hv_b (f_X10_set (b + 15) 64 x3 r3 m4) (fun r5 m6 => hv_set (x3 + 1) (fun y7 => hv_b (f_X1_restOf (b + 1) x4 m6) (fun r8 m9 => R5 x2 y7 r8 m9)))))))) (J_X2_allBut_63 b x3 x4 mem)
def L_X2_allBut_5 (b : Nat) : Nat → Int → Int → Int → hMem → hRs
  | 0 => fun _ _ _ _ => none
  | n + 1 => B_X2_allBut_5 b (L_X2_allBut_5 b n)
set_option maxRecDepth 100000 in
theorem gB_X2_allBut_5 {X : hv_X} (hc : hv_C X cX2_allBut 7 RX2 (some FieldType.int) 1 0 0) (b : Nat) (hb : b = 26 ∨ b = 42) (R5 : Int → Int → Int → hMem → hRs) (hR5 : ∀ (x2 x3 x4 : Int) (mem : hMem), hv_R X 7 0 0 (hv_QX X 0 0 0) (R5 x2 x3 x4 mem) mem [] [(0, .ref (hv_ad X b)), (2, .int (hv_I x2)), (3, .int (hv_I x3)), (4, .int (hv_I x4))] [] 5) (x2 x3 x4 : Int) (mem : hMem) : hv_R X 7 0 0 (hv_QX X 0 0 0) (B_X2_allBut_5 b R5 x2 x3 x4 mem) mem [] [(0, .ref (hv_ad X b)), (2, .int (hv_I x2)), (3, .int (hv_I x3)), (4, .int (hv_I x4))] [] 5 := by
  unfold B_X2_allBut_5
  refine hv_iload_n hc dX2_allBut_5 rfl (hv_m 2 rfl) ?_
  refine hv_bipush hc dX2_allBut_6 (by decide) ?_
  refine hv_icmp_ge (tgt := 63) hc dX2_allBut_8 (by decide) ?_ ?_
  · exact hv_pick [0, 2, 3] rfl (g_X2_allBut_63 hc b hb x3 x4 mem)
  · refine hv_iload hc dX2_allBut_11 (hv_m 3 rfl) ?_
    refine hv_if_eq (tgt := 63) hc dX2_allBut_13 (by decide) ?_ ?_
    · exact hv_pick [0, 2, 3] rfl (g_X2_allBut_63 hc b hb x3 x4 mem)
    · refine hv_aload_n hc dX2_allBut_16 rfl (hv_m 0 rfl) ?_
      refine hv_getR hc fl_X2_12 (sh_X2 hb) rfl dX2_allBut_17 ?_
      refine hv_iload hc dX2_allBut_20 (hv_m 3 rfl) ?_
      refine hv_callVi hc (c_X1_firstOf (b + 1) (hv_h2c hb) x4 mem) yv_X1_firstOf tw_713 (sh_X1 (hv_h2c hb)) rfl rfl rfl rfl (Nat.le_of_ble_eq_true rfl) (Nat.le_of_ble_eq_true rfl) (Nat.zero_le _) (Nat.zero_le _) dX2_allBut_22 (fun r1 m2 => ?_)
      refine hv_iload_n hc dX2_allBut_25 rfl (hv_m 1 rfl) ?_
      refine hv_icmp_eq (tgt := 63) hc dX2_allBut_26 (by decide) ?_ ?_
      · exact hv_pick [0, 2, 3] rfl (g_X2_allBut_63 hc b hb x3 x4 m2)
      · refine hv_aload_n hc dX2_allBut_29 rfl (hv_m 0 rfl) ?_
        refine hv_getR hc fl_X2_31 (sh_X2 hb) rfl dX2_allBut_30 ?_
        refine hv_iload_n hc dX2_allBut_33 rfl (hv_m 2 rfl) ?_
        refine hv_aload_n hc dX2_allBut_34 rfl (hv_m 0 rfl) ?_
        refine hv_getR hc fl_X2_12 (sh_X2 hb) rfl dX2_allBut_35 ?_
        refine hv_iload hc dX2_allBut_38 (hv_m 3 rfl) ?_
        refine hv_callVi hc (c_X1_firstOf (b + 1) (hv_h2c hb) x4 m2) yv_X1_firstOf tw_713 (sh_X1 (hv_h2c hb)) rfl rfl rfl rfl (Nat.le_of_ble_eq_true rfl) (Nat.le_of_ble_eq_true rfl) (Nat.zero_le _) (Nat.zero_le _) dX2_allBut_40 (fun r3 m4 => ?_)
        refine hv_callSNv hc (c_X10_set (b + 15) 64 (sh_X2_15 hb) (Nat.le_of_ble_eq_true rfl) x3 r3 m4) ys_X10_set nl_15 rfl rfl rfl (Nat.le_of_ble_eq_true rfl) (Nat.le_of_ble_eq_true rfl) (Nat.zero_le _) (Nat.zero_le _) dX2_allBut_43 (fun r5 m6 => ?_)
        refine hv_iinc_s (lvf := fun y7 => [(3, .int (hv_I y7)), (0, .ref (hv_ad X b)), (2, .int (hv_I x2)), (4, .int (hv_I x4))]) hc dX2_allBut_46 (by decide) (hv_m 2 rfl) (fun _ => rfl) (fun y7 => ?_)
        refine hv_aload_n hc dX2_allBut_49 rfl (hv_m 1 rfl) ?_
        refine hv_getR hc fl_X2_12 (sh_X2 hb) rfl dX2_allBut_50 ?_
        refine hv_iload hc dX2_allBut_53 (hv_m 3 rfl) ?_
        refine hv_callVi hc (c_X1_restOf (b + 1) (hv_h2c hb) x4 m6) yv_X1_restOf tw_714 (sh_X1 (hv_h2c hb)) rfl rfl rfl rfl (Nat.le_of_ble_eq_true rfl) (Nat.le_of_ble_eq_true rfl) (Nat.zero_le _) (Nat.zero_le _) dX2_allBut_55 (fun r8 m9 => ?_)
        refine hv_istore (lv' := [(4, .int (hv_I r8)), (3, .int (hv_I y7)), (0, .ref (hv_ad X b)), (2, .int (hv_I x2))]) hc dX2_allBut_58 (by decide) rfl ?_
        refine hv_goto (tgt := 5) hc dX2_allBut_60 (by decide) ?_
        exact hv_pick [2, 3, 1, 0] rfl (hR5 x2 y7 r8 m9)
theorem g_X2_allBut_5 {X : hv_X} (hc : hv_C X cX2_allBut 7 RX2 (some FieldType.int) 1 0 0) (b : Nat) (hb : b = 26 ∨ b = 42) : ∀ (n : Nat) (x2 x3 x4 : Int) (mem : hMem), hv_R X 7 0 0 (hv_QX X 0 0 0) (L_X2_allBut_5 b n x2 x3 x4 mem) mem [] [(0, .ref (hv_ad X b)), (2, .int (hv_I x2)), (3, .int (hv_I x3)), (4, .int (hv_I x4))] [] 5 := by
  intro n
  induction n with
  | zero => intros; exact hv_none
  | succ n ih => exact gB_X2_allBut_5 hc b hb _ ih
def f_X2_allBut (b : Nat) (x1 x2 : Int) (mem : hMem) : hRs := L_X2_allBut_5 b hv_FU x2 0 x1 mem
set_option maxRecDepth 100000 in
set_option maxHeartbeats 4000000 in
theorem c_X2_allBut (b : Nat) (hb : b = 26 ∨ b = 42) (x1 x2 : Int) (mem : hMem) : hv_Met 1 0 0 0 yX2_allBut cX2_allBut 7 (some FieldType.int) (fun ad _ _ => [.ref (ad b), .int (hv_I x1), .int (hv_I x2)]) mem (f_X2_allBut b x1 x2 mem) := by
  refine hv_start (by decide +kernel) (fun _ _ _ => Nat.le_of_ble_eq_true rfl) ?_
  intro X hc
  have hc : hv_C X cX2_allBut 7 RX2 (some FieldType.int) 1 0 0 := hc
  show hv_R X 7 0 0 (hv_QX X 0 0 0) (f_X2_allBut b x1 x2 mem) mem [] [(0, .ref (hv_ad X b)), (1, .int (hv_I x1)), (2, .int (hv_I x2))] [] 0
  unfold f_X2_allBut
  refine hv_iconst hc dX2_allBut_0 ?_
  refine hv_istore_n (lv' := [(3, .int (hv_I 0)), (0, .ref (hv_ad X b)), (1, .int (hv_I x1)), (2, .int (hv_I x2))]) hc dX2_allBut_1 rfl (by decide) rfl ?_
  refine hv_iload_n hc dX2_allBut_2 rfl (hv_m 2 rfl) ?_
  refine hv_istore (lv' := [(4, .int (hv_I x1)), (3, .int (hv_I 0)), (0, .ref (hv_ad X b)), (1, .int (hv_I x1)), (2, .int (hv_I x2))]) hc dX2_allBut_3 (by decide) rfl ?_
  exact hv_pick [2, 4, 1, 0] rfl (g_X2_allBut_5 hc b hb hv_FU x2 0 x1 mem)
def f_J6_compare_7cf53 (x0 x1 : Int) (mem : hMem) : hRs := hv_lt x0 x1 (hv_ret ((-1)) mem) (hv_eq x0 x1 (hv_ret 0 mem) (hv_ret 1 mem))
set_option maxRecDepth 100000 in
set_option maxHeartbeats 4000000 in
theorem c_J6_compare_7cf53 (x0 x1 : Int) (mem : hMem) : hv_Met 0 0 0 0 yJ6_compare_7cf53 cJ6_compare_7cf53 2 (some FieldType.int) (fun _ _ _ => [.int (hv_I x0), .int (hv_I x1)]) mem (f_J6_compare_7cf53 x0 x1 mem) := by
  refine hv_start (by decide +kernel) (fun _ _ _ => Nat.le_of_ble_eq_true rfl) ?_
  intro X hc
  have hc : hv_C X cJ6_compare_7cf53 2 RJ6 (some FieldType.int) 0 0 0 := hc
  show hv_R X 2 0 0 (hv_QX X 0 0 0) (f_J6_compare_7cf53 x0 x1 mem) mem [] [(0, .int (hv_I x0)), (1, .int (hv_I x1))] [] 0
  unfold f_J6_compare_7cf53
  refine hv_iload_n hc dJ6_compare_7cf53_0 rfl (hv_m 0 rfl) ?_
  refine hv_iload_n hc dJ6_compare_7cf53_1 rfl (hv_m 1 rfl) ?_
  refine hv_icmp_ge (tgt := 9) hc dJ6_compare_7cf53_2 (by decide) ?_ ?_
  · refine hv_iload_n hc dJ6_compare_7cf53_9 rfl (hv_m 0 rfl) ?_
    refine hv_iload_n hc dJ6_compare_7cf53_10 rfl (hv_m 1 rfl) ?_
    refine hv_icmp_ne (tgt := 18) hc dJ6_compare_7cf53_11 (by decide) ?_ ?_
    · refine hv_iconst hc dJ6_compare_7cf53_18 ?_
      exact hv_iret hc dJ6_compare_7cf53_19
    · refine hv_iconst hc dJ6_compare_7cf53_14 ?_
      refine hv_goto (tgt := 19) hc dJ6_compare_7cf53_15 (by decide) ?_
      exact hv_iret hc dJ6_compare_7cf53_19
  · refine hv_iconst hc dJ6_compare_7cf53_5 ?_
    refine hv_goto (tgt := 19) hc dJ6_compare_7cf53_6 (by decide) ?_
    exact hv_iret hc dJ6_compare_7cf53_19
def B_X2_merge_210 (b : Nat) (R210 : Int → Int → hMem → hRs) (x6 x7 : Int) (mem : hMem) : hRs := hv_lt x7 0 (hv_ret x6 mem) (hv_b (f_X10_at (b + 15) 64 x7 mem) (fun r1 m2 => hv_b (f_X2_carry b r1 x6 m2) (fun r3 m4 => hv_set (x7 + (-1)) (fun y5 => R210 r3 y5 m4))))
def L_X2_merge_210 (b : Nat) : Nat → Int → Int → hMem → hRs
  | 0 => fun _ _ _ => none
  | n + 1 => B_X2_merge_210 b (L_X2_merge_210 b n)
set_option maxRecDepth 100000 in
theorem gB_X2_merge_210 {X : hv_X} (hc : hv_C X cX2_merge 10 RX2 (some FieldType.int) 3 0 0) (b : Nat) (hb : b = 26 ∨ b = 42) (R210 : Int → Int → hMem → hRs) (hR210 : ∀ (x6 x7 : Int) (mem : hMem), hv_R X 10 0 0 (hv_QX X 0 0 0) (R210 x6 x7 mem) mem [] [(0, .ref (hv_ad X b)), (6, .int (hv_I x6)), (7, .int (hv_I x7))] [] 210) (x6 x7 : Int) (mem : hMem) : hv_R X 10 0 0 (hv_QX X 0 0 0) (B_X2_merge_210 b R210 x6 x7 mem) mem [] [(0, .ref (hv_ad X b)), (6, .int (hv_I x6)), (7, .int (hv_I x7))] [] 210 := by
  unfold B_X2_merge_210
  refine hv_iload hc dX2_merge_210 (hv_m 2 rfl) ?_
  refine hv_if_lt (tgt := 238) hc dX2_merge_212 (by decide) ?_ ?_
  · refine hv_iload hc dX2_merge_238 (hv_m 1 rfl) ?_
    exact hv_iret hc dX2_merge_240
  · refine hv_aload_n hc dX2_merge_215 rfl (hv_m 0 rfl) ?_
    refine hv_aload_n hc dX2_merge_216 rfl (hv_m 0 rfl) ?_
    refine hv_getR hc fl_X2_31 (sh_X2 hb) rfl dX2_merge_217 ?_
    refine hv_iload hc dX2_merge_220 (hv_m 2 rfl) ?_
    refine hv_callSNi hc (c_X10_at (b + 15) 64 (sh_X2_15 hb) (Nat.le_of_ble_eq_true rfl) x7 mem) ys_X10_at nl_10 rfl rfl rfl (Nat.le_of_ble_eq_true rfl) (Nat.le_of_ble_eq_true rfl) (Nat.zero_le _) (Nat.zero_le _) dX2_merge_222 (fun r1 m2 => ?_)
    refine hv_iload hc dX2_merge_225 (hv_m 1 rfl) ?_
    refine hv_callVi hc (c_X2_carry b hb r1 x6 m2) yv_X2_carry tw_746 (sh_X2 hb) rfl rfl rfl rfl (Nat.le_of_ble_eq_true rfl) (Nat.le_of_ble_eq_true rfl) (Nat.zero_le _) (Nat.zero_le _) dX2_merge_227 (fun r3 m4 => ?_)
    refine hv_istore (lv' := [(6, .int (hv_I r3)), (0, .ref (hv_ad X b)), (7, .int (hv_I x7))]) hc dX2_merge_230 (by decide) rfl ?_
    refine hv_iinc_s (lvf := fun y5 => [(7, .int (hv_I y5)), (6, .int (hv_I r3)), (0, .ref (hv_ad X b))]) hc dX2_merge_232 (by decide) (hv_m 2 rfl) (fun _ => rfl) (fun y5 => ?_)
    refine hv_goto (tgt := 210) hc dX2_merge_235 (by decide) ?_
    exact hv_pick [2, 1, 0] rfl (hR210 r3 y5 m4)
theorem g_X2_merge_210 {X : hv_X} (hc : hv_C X cX2_merge 10 RX2 (some FieldType.int) 3 0 0) (b : Nat) (hb : b = 26 ∨ b = 42) : ∀ (n : Nat) (x6 x7 : Int) (mem : hMem), hv_R X 10 0 0 (hv_QX X 0 0 0) (L_X2_merge_210 b n x6 x7 mem) mem [] [(0, .ref (hv_ad X b)), (6, .int (hv_I x6)), (7, .int (hv_I x7))] [] 210 := by
  intro n
  induction n with
  | zero => intros; exact hv_none
  | succ n ih => exact gB_X2_merge_210 hc b hb _ ih
def J_X2_merge_202 (b : Nat) (x5 s0 : Int) (mem : hMem) : hRs := hv_set (x5 - 1) (fun y1 => L_X2_merge_210 b hv_FU s0 y1 mem)
set_option maxRecDepth 100000 in
theorem g_X2_merge_202 {X : hv_X} (hc : hv_C X cX2_merge 10 RX2 (some FieldType.int) 3 0 0) (b : Nat) (hb : b = 26 ∨ b = 42) (x5 s0 : Int) (mem : hMem) : hv_R X 10 0 0 (hv_QX X 0 0 0) (J_X2_merge_202 b x5 s0 mem) mem [] [(0, .ref (hv_ad X b)), (5, .int (hv_I x5))] [.int (hv_I s0)] 202 := by
  unfold J_X2_merge_202
  refine hv_istore (lv' := [(6, .int (hv_I s0)), (0, .ref (hv_ad X b)), (5, .int (hv_I x5))]) hc dX2_merge_202 (by decide) rfl ?_
  refine hv_iload hc dX2_merge_204 (hv_m 2 rfl) ?_
  refine hv_iconst hc dX2_merge_206 ?_
  refine hv_isub hc dX2_merge_207 ?_
  refine hv_istore_s (lvf := fun y1 => [(7, .int (hv_I y1)), (6, .int (hv_I s0)), (0, .ref (hv_ad X b)), (5, .int (hv_I x5))]) hc dX2_merge_208 (by decide) (fun _ => rfl) (fun y1 => ?_)
  exact hv_pick [2, 1, 0] rfl (g_X2_merge_210 hc b hb hv_FU s0 y1 mem)
def J_X2_merge_192 (b : Nat) (x3 x4 x5 : Int) (mem : hMem) : hRs := hv_eq x3 0 (J_X2_merge_202 b x5 x4 mem) (J_X2_merge_202 b x5 x3 mem)
set_option maxRecDepth 100000 in
theorem g_X2_merge_192 {X : hv_X} (hc : hv_C X cX2_merge 10 RX2 (some FieldType.int) 3 0 0) (b : Nat) (hb : b = 26 ∨ b = 42) (x3 x4 x5 : Int) (mem : hMem) : hv_R X 10 0 0 (hv_QX X 0 0 0) (J_X2_merge_192 b x3 x4 x5 mem) mem [] [(0, .ref (hv_ad X b)), (3, .int (hv_I x3)), (4, .int (hv_I x4)), (5, .int (hv_I x5))] [] 192 := by
  unfold J_X2_merge_192
  refine hv_iload_n hc dX2_merge_192 rfl (hv_m 1 rfl) ?_
  refine hv_if_ne (tgt := 201) hc dX2_merge_193 (by decide) ?_ ?_
  · refine hv_iload_n hc dX2_merge_201 rfl (hv_m 1 rfl) ?_
    exact hv_pick [0, 3] rfl (g_X2_merge_202 hc b hb x5 x3 mem)
  · refine hv_iload hc dX2_merge_196 (hv_m 2 rfl) ?_
    refine hv_goto (tgt := 202) hc dX2_merge_198 (by decide) ?_
    exact hv_pick [0, 3] rfl (g_X2_merge_202 hc b hb x5 x4 mem)
def J_X2_merge_167 (b : Nat) (R46 : Int → Int → Int → hMem → hRs) (x4 x5 x8 s0 : Int) (mem : hMem) : hRs := hv_lt x8 0 (R46 s0 x4 x5 mem) (hv_b (f_X1_restOf (b + 1) x4 mem) (fun r1 m2 => R46 s0 r1 x5 m2))
set_option maxRecDepth 100000 in
theorem g_X2_merge_167 {X : hv_X} (hc : hv_C X cX2_merge 10 RX2 (some FieldType.int) 3 0 0) (b : Nat) (hb : b = 26 ∨ b = 42) (R46 : Int → Int → Int → hMem → hRs) (hR46 : ∀ (x3 x4 x5 : Int) (mem : hMem), hv_R X 10 0 0 (hv_QX X 0 0 0) (R46 x3 x4 x5 mem) mem [] [(0, .ref (hv_ad X b)), (3, .int (hv_I x3)), (4, .int (hv_I x4)), (5, .int (hv_I x5))] [] 46) (x4 x5 x8 s0 : Int) (mem : hMem) : hv_R X 10 0 0 (hv_QX X 0 0 0) (J_X2_merge_167 b R46 x4 x5 x8 s0 mem) mem [] [(0, .ref (hv_ad X b)), (4, .int (hv_I x4)), (5, .int (hv_I x5)), (8, .int (hv_I x8))] [.int (hv_I s0)] 167 := by
  unfold J_X2_merge_167
  refine hv_istore_n (lv' := [(3, .int (hv_I s0)), (0, .ref (hv_ad X b)), (4, .int (hv_I x4)), (5, .int (hv_I x5)), (8, .int (hv_I x8))]) hc dX2_merge_167 rfl (by decide) rfl ?_
  refine hv_iload hc dX2_merge_168 (hv_m 4 rfl) ?_
  refine hv_if_lt (tgt := 185) hc dX2_merge_170 (by decide) ?_ ?_
  · refine hv_iload hc dX2_merge_185 (hv_m 2 rfl) ?_
    refine hv_istore (lv' := [(4, .int (hv_I x4)), (3, .int (hv_I s0)), (0, .ref (hv_ad X b)), (5, .int (hv_I x5)), (8, .int (hv_I x8))]) hc dX2_merge_187 (by decide) rfl ?_
    refine hv_goto (tgt := 46) hc dX2_merge_189 (by decide) ?_
    exact hv_pick [2, 1, 0, 3] rfl (hR46 s0 x4 x5 mem)
  · refine hv_aload_n hc dX2_merge_173 rfl (hv_m 1 rfl) ?_
    refine hv_getR hc fl_X2_12 (sh_X2 hb) rfl dX2_merge_174 ?_
    refine hv_iload hc dX2_merge_177 (hv_m 2 rfl) ?_
    refine hv_callVi hc (c_X1_restOf (b + 1) (hv_h2c hb) x4 mem) yv_X1_restOf tw_714 (sh_X1 (hv_h2c hb)) rfl rfl rfl rfl (Nat.le_of_ble_eq_true rfl) (Nat.le_of_ble_eq_true rfl) (Nat.zero_le _) (Nat.zero_le _) dX2_merge_179 (fun r1 m2 => ?_)
    refine hv_goto (tgt := 187) hc dX2_merge_182 (by decide) ?_
    refine hv_istore (lv' := [(4, .int (hv_I r1)), (3, .int (hv_I s0)), (0, .ref (hv_ad X b)), (5, .int (hv_I x5)), (8, .int (hv_I x8))]) hc dX2_merge_187 (by decide) rfl ?_
    refine hv_goto (tgt := 46) hc dX2_merge_189 (by decide) ?_
    exact hv_pick [2, 1, 0, 3] rfl (hR46 s0 r1 x5 m2)
def J_X2_merge_144 (b : Nat) (R46 : Int → Int → Int → hMem → hRs) (x3 x4 x5 x8 s1 s2 : Int) (mem : hMem) : hRs := hv_b (f_X10_set (b + 15) 64 s1 s2 mem) (fun r1 m2 => hv_set (x5 + 1) (fun y3 => hv_lt 0 x8 (J_X2_merge_167 b R46 x4 y3 x8 x3 m2) (hv_b (f_X1_restOf (b + 1) x3 m2) (fun r4 m5 => J_X2_merge_167 b R46 x4 y3 x8 r4 m5))))
set_option maxRecDepth 100000 in
theorem g_X2_merge_144 {X : hv_X} (hc : hv_C X cX2_merge 10 RX2 (some FieldType.int) 3 0 0) (b : Nat) (hb : b = 26 ∨ b = 42) (R46 : Int → Int → Int → hMem → hRs) (hR46 : ∀ (x3 x4 x5 : Int) (mem : hMem), hv_R X 10 0 0 (hv_QX X 0 0 0) (R46 x3 x4 x5 mem) mem [] [(0, .ref (hv_ad X b)), (3, .int (hv_I x3)), (4, .int (hv_I x4)), (5, .int (hv_I x5))] [] 46) (x3 x4 x5 x8 s1 s2 : Int) (mem : hMem) : hv_R X 10 0 0 (hv_QX X 0 0 0) (J_X2_merge_144 b R46 x3 x4 x5 x8 s1 s2 mem) mem [] [(0, .ref (hv_ad X b)), (3, .int (hv_I x3)), (4, .int (hv_I x4)), (5, .int (hv_I x5)), (8, .int (hv_I x8))] [.int (hv_I s2), .int (hv_I s1), .ref (hv_ad X (b + 15))] 144 := by
  unfold J_X2_merge_144
  refine hv_callSNv hc (c_X10_set (b + 15) 64 (sh_X2_15 hb) (Nat.le_of_ble_eq_true rfl) s1 s2 mem) ys_X10_set nl_15 rfl rfl rfl (Nat.le_of_ble_eq_true rfl) (Nat.le_of_ble_eq_true rfl) (Nat.zero_le _) (Nat.zero_le _) dX2_merge_144 (fun r1 m2 => ?_)
  refine hv_iinc_s (lvf := fun y3 => [(5, .int (hv_I y3)), (0, .ref (hv_ad X b)), (3, .int (hv_I x3)), (4, .int (hv_I x4)), (8, .int (hv_I x8))]) hc dX2_merge_147 (by decide) (hv_m 3 rfl) (fun _ => rfl) (fun y3 => ?_)
  refine hv_iload hc dX2_merge_150 (hv_m 4 rfl) ?_
  refine hv_if_gt (tgt := 166) hc dX2_merge_152 (by decide) ?_ ?_
  · refine hv_iload_n hc dX2_merge_166 rfl (hv_m 2 rfl) ?_
    exact hv_pick [1, 3, 0, 4] rfl (g_X2_merge_167 hc b hb R46 hR46 x4 y3 x8 x3 m2)
  · refine hv_aload_n hc dX2_merge_155 rfl (hv_m 1 rfl) ?_
    refine hv_getR hc fl_X2_12 (sh_X2 hb) rfl dX2_merge_156 ?_
    refine hv_iload_n hc dX2_merge_159 rfl (hv_m 2 rfl) ?_
    refine hv_callVi hc (c_X1_restOf (b + 1) (hv_h2c hb) x3 m2) yv_X1_restOf tw_714 (sh_X1 (hv_h2c hb)) rfl rfl rfl rfl (Nat.le_of_ble_eq_true rfl) (Nat.le_of_ble_eq_true rfl) (Nat.zero_le _) (Nat.zero_le _) dX2_merge_160 (fun r4 m5 => ?_)
    refine hv_goto (tgt := 167) hc dX2_merge_163 (by decide) ?_
    exact hv_pick [1, 3, 0, 4] rfl (g_X2_merge_167 hc b hb R46 hR46 x4 y3 x8 r4 m5)
def J_X2_merge_118 (b : Nat) (R46 : Int → Int → Int → hMem → hRs) (x3 x4 x5 x6 x7 x8 s0 : Int) (mem : hMem) : hRs := hv_eq x8 0 (hv_b (f_X2_link b x6 x7 mem) (fun r1 m2 => J_X2_merge_144 b R46 x3 x4 x5 x8 x5 r1 m2)) (J_X2_merge_144 b R46 x3 x4 x5 x8 x5 s0 mem)
set_option maxRecDepth 100000 in
theorem g_X2_merge_118 {X : hv_X} (hc : hv_C X cX2_merge 10 RX2 (some FieldType.int) 3 0 0) (b : Nat) (hb : b = 26 ∨ b = 42) (R46 : Int → Int → Int → hMem → hRs) (hR46 : ∀ (x3 x4 x5 : Int) (mem : hMem), hv_R X 10 0 0 (hv_QX X 0 0 0) (R46 x3 x4 x5 mem) mem [] [(0, .ref (hv_ad X b)), (3, .int (hv_I x3)), (4, .int (hv_I x4)), (5, .int (hv_I x5))] [] 46) (x3 x4 x5 x6 x7 x8 s0 : Int) (mem : hMem) : hv_R X 10 0 0 (hv_QX X 0 0 0) (J_X2_merge_118 b R46 x3 x4 x5 x6 x7 x8 s0 mem) mem [] [(0, .ref (hv_ad X b)), (3, .int (hv_I x3)), (4, .int (hv_I x4)), (5, .int (hv_I x5)), (6, .int (hv_I x6)), (7, .int (hv_I x7)), (8, .int (hv_I x8))] [.int (hv_I s0)] 118 := by
  unfold J_X2_merge_118
  refine hv_istore (lv' := [(9, .int (hv_I s0)), (0, .ref (hv_ad X b)), (3, .int (hv_I x3)), (4, .int (hv_I x4)), (5, .int (hv_I x5)), (6, .int (hv_I x6)), (7, .int (hv_I x7)), (8, .int (hv_I x8))]) hc dX2_merge_118 (by decide) rfl ?_
  refine hv_aload_n hc dX2_merge_120 rfl (hv_m 1 rfl) ?_
  refine hv_getR hc fl_X2_31 (sh_X2 hb) rfl dX2_merge_121 ?_
  refine hv_iload hc dX2_merge_124 (hv_m 4 rfl) ?_
  refine hv_iload hc dX2_merge_126 (hv_m 7 rfl) ?_
  refine hv_if_ne (tgt := 142) hc dX2_merge_128 (by decide) ?_ ?_
  · refine hv_iload hc dX2_merge_142 (hv_m 0 rfl) ?_
    exact hv_pick [1, 2, 3, 4, 7] rfl (g_X2_merge_144 hc b hb R46 hR46 x3 x4 x5 x8 x5 s0 mem)
  · refine hv_aload_n hc dX2_merge_131 rfl (hv_m 1 rfl) ?_
    refine hv_iload hc dX2_merge_132 (hv_m 5 rfl) ?_
    refine hv_iload hc dX2_merge_134 (hv_m 6 rfl) ?_
    refine hv_callVi hc (c_X2_link b hb x6 x7 mem) yv_X2_link tw_719 (sh_X2 hb) rfl rfl rfl rfl (Nat.le_of_ble_eq_true rfl) (Nat.le_of_ble_eq_true rfl) (Nat.zero_le _) (Nat.zero_le _) dX2_merge_136 (fun r1 m2 => ?_)
    refine hv_goto (tgt := 144) hc dX2_merge_139 (by decide) ?_
    exact hv_pick [1, 2, 3, 4, 7] rfl (g_X2_merge_144 hc b hb R46 hR46 x3 x4 x5 x8 x5 r1 m2)
def B_X2_merge_46 (b : Nat) (R46 : Int → Int → Int → hMem → hRs) (x3 x4 x5 : Int) (mem : hMem) : hRs := hv_lt x5 64 (hv_eq x3 0 (J_X2_merge_192 b x3 x4 x5 mem) (hv_eq x4 0 (J_X2_merge_192 b x3 x4 x5 mem) (hv_b (f_X1_firstOf (b + 1) x3 mem) (fun r1 m2 => hv_b (f_X1_firstOf (b + 1) x4 m2) (fun r3 m4 => hv_b (f_X1_rankOf (b + 1) r1 m4) (fun r5 m6 => hv_b (f_X1_rankOf (b + 1) r3 m6) (fun r7 m8 => hv_b (f_J6_compare_7cf53 r5 r7 m8) (fun r9 m10 => hv_lt r9 0 (J_X2_merge_118 b R46 x3 x4 x5 r1 r3 r9 r1 m10) (J_X2_merge_118 b R46 x3 x4 x5 r1 r3 r9 r3 m10))))))))) (J_X2_merge_192 b x3 x4 x5 mem)
def L_X2_merge_46 (b : Nat) : Nat → Int → Int → Int → hMem → hRs
  | 0 => fun _ _ _ _ => none
  | n + 1 => B_X2_merge_46 b (L_X2_merge_46 b n)
set_option maxRecDepth 100000 in
theorem gB_X2_merge_46 {X : hv_X} (hc : hv_C X cX2_merge 10 RX2 (some FieldType.int) 3 0 0) (b : Nat) (hb : b = 26 ∨ b = 42) (R46 : Int → Int → Int → hMem → hRs) (hR46 : ∀ (x3 x4 x5 : Int) (mem : hMem), hv_R X 10 0 0 (hv_QX X 0 0 0) (R46 x3 x4 x5 mem) mem [] [(0, .ref (hv_ad X b)), (3, .int (hv_I x3)), (4, .int (hv_I x4)), (5, .int (hv_I x5))] [] 46) (x3 x4 x5 : Int) (mem : hMem) : hv_R X 10 0 0 (hv_QX X 0 0 0) (B_X2_merge_46 b R46 x3 x4 x5 mem) mem [] [(0, .ref (hv_ad X b)), (3, .int (hv_I x3)), (4, .int (hv_I x4)), (5, .int (hv_I x5))] [] 46 := by
  unfold B_X2_merge_46
  refine hv_iload hc dX2_merge_46 (hv_m 3 rfl) ?_
  refine hv_bipush hc dX2_merge_48 (by decide) ?_
  refine hv_icmp_ge (tgt := 192) hc dX2_merge_50 (by decide) ?_ ?_
  · exact hv_pick [0, 1, 2, 3] rfl (g_X2_merge_192 hc b hb x3 x4 x5 mem)
  · refine hv_iload_n hc dX2_merge_53 rfl (hv_m 1 rfl) ?_
    refine hv_if_eq (tgt := 192) hc dX2_merge_54 (by decide) ?_ ?_
    · exact hv_pick [0, 1, 2, 3] rfl (g_X2_merge_192 hc b hb x3 x4 x5 mem)
    · refine hv_iload hc dX2_merge_57 (hv_m 2 rfl) ?_
      refine hv_if_eq (tgt := 192) hc dX2_merge_59 (by decide) ?_ ?_
      · exact hv_pick [0, 1, 2, 3] rfl (g_X2_merge_192 hc b hb x3 x4 x5 mem)
      · refine hv_aload_n hc dX2_merge_62 rfl (hv_m 0 rfl) ?_
        refine hv_getR hc fl_X2_12 (sh_X2 hb) rfl dX2_merge_63 ?_
        refine hv_iload_n hc dX2_merge_66 rfl (hv_m 1 rfl) ?_
        refine hv_callVi hc (c_X1_firstOf (b + 1) (hv_h2c hb) x3 mem) yv_X1_firstOf tw_713 (sh_X1 (hv_h2c hb)) rfl rfl rfl rfl (Nat.le_of_ble_eq_true rfl) (Nat.le_of_ble_eq_true rfl) (Nat.zero_le _) (Nat.zero_le _) dX2_merge_67 (fun r1 m2 => ?_)
        refine hv_istore (lv' := [(6, .int (hv_I r1)), (0, .ref (hv_ad X b)), (3, .int (hv_I x3)), (4, .int (hv_I x4)), (5, .int (hv_I x5))]) hc dX2_merge_70 (by decide) rfl ?_
        refine hv_aload_n hc dX2_merge_72 rfl (hv_m 1 rfl) ?_
        refine hv_getR hc fl_X2_12 (sh_X2 hb) rfl dX2_merge_73 ?_
        refine hv_iload hc dX2_merge_76 (hv_m 3 rfl) ?_
        refine hv_callVi hc (c_X1_firstOf (b + 1) (hv_h2c hb) x4 m2) yv_X1_firstOf tw_713 (sh_X1 (hv_h2c hb)) rfl rfl rfl rfl (Nat.le_of_ble_eq_true rfl) (Nat.le_of_ble_eq_true rfl) (Nat.zero_le _) (Nat.zero_le _) dX2_merge_78 (fun r3 m4 => ?_)
        refine hv_istore (lv' := [(7, .int (hv_I r3)), (6, .int (hv_I r1)), (0, .ref (hv_ad X b)), (3, .int (hv_I x3)), (4, .int (hv_I x4)), (5, .int (hv_I x5))]) hc dX2_merge_81 (by decide) rfl ?_
        refine hv_aload_n hc dX2_merge_83 rfl (hv_m 2 rfl) ?_
        refine hv_getR hc fl_X2_12 (sh_X2 hb) rfl dX2_merge_84 ?_
        refine hv_iload hc dX2_merge_87 (hv_m 1 rfl) ?_
        refine hv_callVi hc (c_X1_rankOf (b + 1) (hv_h2c hb) r1 m4) yv_X1_rankOf tw_715 (sh_X1 (hv_h2c hb)) rfl rfl rfl rfl (Nat.le_of_ble_eq_true rfl) (Nat.le_of_ble_eq_true rfl) (Nat.zero_le _) (Nat.zero_le _) dX2_merge_89 (fun r5 m6 => ?_)
        refine hv_aload_n hc dX2_merge_92 rfl (hv_m 2 rfl) ?_
        refine hv_getR hc fl_X2_12 (sh_X2 hb) rfl dX2_merge_93 ?_
        refine hv_iload hc dX2_merge_96 (hv_m 0 rfl) ?_
        refine hv_callVi hc (c_X1_rankOf (b + 1) (hv_h2c hb) r3 m6) yv_X1_rankOf tw_715 (sh_X1 (hv_h2c hb)) rfl rfl rfl rfl (Nat.le_of_ble_eq_true rfl) (Nat.le_of_ble_eq_true rfl) (Nat.zero_le _) (Nat.zero_le _) dX2_merge_98 (fun r7 m8 => ?_)
        refine hv_callSi hc (c_J6_compare_7cf53 r5 r7 m8) ys_J6_compare_7cf53 tw_770 rfl rfl rfl (Nat.le_of_ble_eq_true rfl) (Nat.le_of_ble_eq_true rfl) (Nat.zero_le _) (Nat.zero_le _) dX2_merge_101 (fun r9 m10 => ?_)
        refine hv_istore (lv' := [(8, .int (hv_I r9)), (7, .int (hv_I r3)), (6, .int (hv_I r1)), (0, .ref (hv_ad X b)), (3, .int (hv_I x3)), (4, .int (hv_I x4)), (5, .int (hv_I x5))]) hc dX2_merge_104 (by decide) rfl ?_
        refine hv_iload hc dX2_merge_106 (hv_m 0 rfl) ?_
        refine hv_if_ge (tgt := 116) hc dX2_merge_108 (by decide) ?_ ?_
        · refine hv_iload hc dX2_merge_116 (hv_m 1 rfl) ?_
          exact hv_pick [3, 4, 5, 6, 2, 1, 0] rfl (g_X2_merge_118 hc b hb R46 hR46 x3 x4 x5 r1 r3 r9 r3 m10)
        · refine hv_iload hc dX2_merge_111 (hv_m 2 rfl) ?_
          refine hv_goto (tgt := 118) hc dX2_merge_113 (by decide) ?_
          exact hv_pick [3, 4, 5, 6, 2, 1, 0] rfl (g_X2_merge_118 hc b hb R46 hR46 x3 x4 x5 r1 r3 r9 r1 m10)
theorem g_X2_merge_46 {X : hv_X} (hc : hv_C X cX2_merge 10 RX2 (some FieldType.int) 3 0 0) (b : Nat) (hb : b = 26 ∨ b = 42) : ∀ (n : Nat) (x3 x4 x5 : Int) (mem : hMem), hv_R X 10 0 0 (hv_QX X 0 0 0) (L_X2_merge_46 b n x3 x4 x5 mem) mem [] [(0, .ref (hv_ad X b)), (3, .int (hv_I x3)), (4, .int (hv_I x4)), (5, .int (hv_I x5))] [] 46 := by
  intro n
  induction n with
  | zero => intros; exact hv_none
  | succ n ih => exact gB_X2_merge_46 hc b hb _ ih
def f_X2_merge (b : Nat) (x1 x2 : Int) (mem : hMem) : hRs := hv_b (f_X1_firstOf (b + 1) x1 mem) (fun r1 m2 => hv_b (f_X1_restOf (b + 1) x1 m2) (fun r3 m4 => hv_b (f_X2_carry b r1 r3 m4) (fun r5 m6 => hv_b (f_X1_firstOf (b + 1) x2 m6) (fun r7 m8 => hv_b (f_X1_restOf (b + 1) x2 m8) (fun r9 m10 => hv_b (f_X2_carry b r7 r9 m10) (fun r11 m12 => L_X2_merge_46 b hv_FU r5 r11 0 m12))))))
set_option maxRecDepth 100000 in
set_option maxHeartbeats 4000000 in
theorem c_X2_merge (b : Nat) (hb : b = 26 ∨ b = 42) (x1 x2 : Int) (mem : hMem) : hv_Met 3 0 0 0 yX2_merge cX2_merge 10 (some FieldType.int) (fun ad _ _ => [.ref (ad b), .int (hv_I x1), .int (hv_I x2)]) mem (f_X2_merge b x1 x2 mem) := by
  refine hv_start (by decide +kernel) (fun _ _ _ => Nat.le_of_ble_eq_true rfl) ?_
  intro X hc
  have hc : hv_C X cX2_merge 10 RX2 (some FieldType.int) 3 0 0 := hc
  show hv_R X 10 0 0 (hv_QX X 0 0 0) (f_X2_merge b x1 x2 mem) mem [] [(0, .ref (hv_ad X b)), (1, .int (hv_I x1)), (2, .int (hv_I x2))] [] 0
  unfold f_X2_merge
  refine hv_aload_n hc dX2_merge_0 rfl (hv_m 0 rfl) ?_
  refine hv_aload_n hc dX2_merge_1 rfl (hv_m 0 rfl) ?_
  refine hv_getR hc fl_X2_12 (sh_X2 hb) rfl dX2_merge_2 ?_
  refine hv_iload_n hc dX2_merge_5 rfl (hv_m 1 rfl) ?_
  refine hv_callVi hc (c_X1_firstOf (b + 1) (hv_h2c hb) x1 mem) yv_X1_firstOf tw_713 (sh_X1 (hv_h2c hb)) rfl rfl rfl rfl (Nat.le_of_ble_eq_true rfl) (Nat.le_of_ble_eq_true rfl) (Nat.zero_le _) (Nat.zero_le _) dX2_merge_6 (fun r1 m2 => ?_)
  refine hv_aload_n hc dX2_merge_9 rfl (hv_m 0 rfl) ?_
  refine hv_getR hc fl_X2_12 (sh_X2 hb) rfl dX2_merge_10 ?_
  refine hv_iload_n hc dX2_merge_13 rfl (hv_m 1 rfl) ?_
  refine hv_callVi hc (c_X1_restOf (b + 1) (hv_h2c hb) x1 m2) yv_X1_restOf tw_714 (sh_X1 (hv_h2c hb)) rfl rfl rfl rfl (Nat.le_of_ble_eq_true rfl) (Nat.le_of_ble_eq_true rfl) (Nat.zero_le _) (Nat.zero_le _) dX2_merge_14 (fun r3 m4 => ?_)
  refine hv_callVi hc (c_X2_carry b hb r1 r3 m4) yv_X2_carry tw_746 (sh_X2 hb) rfl rfl rfl rfl (Nat.le_of_ble_eq_true rfl) (Nat.le_of_ble_eq_true rfl) (Nat.zero_le _) (Nat.zero_le _) dX2_merge_17 (fun r5 m6 => ?_)
  refine hv_istore_n (lv' := [(3, .int (hv_I r5)), (0, .ref (hv_ad X b)), (1, .int (hv_I x1)), (2, .int (hv_I x2))]) hc dX2_merge_20 rfl (by decide) rfl ?_
  refine hv_aload_n hc dX2_merge_21 rfl (hv_m 1 rfl) ?_
  refine hv_aload_n hc dX2_merge_22 rfl (hv_m 1 rfl) ?_
  refine hv_getR hc fl_X2_12 (sh_X2 hb) rfl dX2_merge_23 ?_
  refine hv_iload_n hc dX2_merge_26 rfl (hv_m 3 rfl) ?_
  refine hv_callVi hc (c_X1_firstOf (b + 1) (hv_h2c hb) x2 m6) yv_X1_firstOf tw_713 (sh_X1 (hv_h2c hb)) rfl rfl rfl rfl (Nat.le_of_ble_eq_true rfl) (Nat.le_of_ble_eq_true rfl) (Nat.zero_le _) (Nat.zero_le _) dX2_merge_27 (fun r7 m8 => ?_)
  refine hv_aload_n hc dX2_merge_30 rfl (hv_m 1 rfl) ?_
  refine hv_getR hc fl_X2_12 (sh_X2 hb) rfl dX2_merge_31 ?_
  refine hv_iload_n hc dX2_merge_34 rfl (hv_m 3 rfl) ?_
  refine hv_callVi hc (c_X1_restOf (b + 1) (hv_h2c hb) x2 m8) yv_X1_restOf tw_714 (sh_X1 (hv_h2c hb)) rfl rfl rfl rfl (Nat.le_of_ble_eq_true rfl) (Nat.le_of_ble_eq_true rfl) (Nat.zero_le _) (Nat.zero_le _) dX2_merge_35 (fun r9 m10 => ?_)
  refine hv_callVi hc (c_X2_carry b hb r7 r9 m10) yv_X2_carry tw_746 (sh_X2 hb) rfl rfl rfl rfl (Nat.le_of_ble_eq_true rfl) (Nat.le_of_ble_eq_true rfl) (Nat.zero_le _) (Nat.zero_le _) dX2_merge_38 (fun r11 m12 => ?_)
  refine hv_istore (lv' := [(4, .int (hv_I r11)), (3, .int (hv_I r5)), (0, .ref (hv_ad X b)), (1, .int (hv_I x1)), (2, .int (hv_I x2))]) hc dX2_merge_41 (by decide) rfl ?_
  refine hv_iconst hc dX2_merge_43 ?_
  refine hv_istore (lv' := [(5, .int (hv_I 0)), (4, .int (hv_I r11)), (3, .int (hv_I r5)), (0, .ref (hv_ad X b)), (1, .int (hv_I x1)), (2, .int (hv_I x2))]) hc dX2_merge_44 (by decide) rfl ?_
  exact hv_pick [3, 2, 1, 0] rfl (g_X2_merge_46 hc b hb hv_FU r5 r11 0 m12)
def J_X2_take_104 (b : Nat) (x3 x4 : Int) (mem : hMem) : hRs := hv_b (f_X1_headOf (b + 1) x3 mem) (fun r1 m2 => hv_b (f_X1_turnOf (b + 1) r1 m2) (fun r3 m4 => hv_b (f_X1_belowOf (b + 1) r1 m4) (fun r5 m6 => hv_b (f_X2_merge b r5 x4 m6) (fun r7 m8 => hv_b (f_X1_heap (b + 1) r3 r7 m8) (fun r9 m10 => hv_ret r9 m10)))))
set_option maxRecDepth 100000 in
theorem g_X2_take_104 {X : hv_X} (hc : hv_C X cX2_take 7 RX2 (some FieldType.int) 4 0 0) (b : Nat) (hb : b = 26 ∨ b = 42) (x3 x4 : Int) (mem : hMem) : hv_R X 7 0 0 (hv_QX X 0 0 0) (J_X2_take_104 b x3 x4 mem) mem [] [(0, .ref (hv_ad X b)), (3, .int (hv_I x3)), (4, .int (hv_I x4))] [] 104 := by
  unfold J_X2_take_104
  refine hv_aload_n hc dX2_take_104 rfl (hv_m 0 rfl) ?_
  refine hv_getR hc fl_X2_12 (sh_X2 hb) rfl dX2_take_105 ?_
  refine hv_iload_n hc dX2_take_108 rfl (hv_m 1 rfl) ?_
  refine hv_callVi hc (c_X1_headOf (b + 1) (hv_h2c hb) x3 mem) yv_X1_headOf tw_730 (sh_X1 (hv_h2c hb)) rfl rfl rfl rfl (Nat.le_of_ble_eq_true rfl) (Nat.le_of_ble_eq_true rfl) (Nat.zero_le _) (Nat.zero_le _) dX2_take_109 (fun r1 m2 => ?_)
  refine hv_istore (lv' := [(6, .int (hv_I r1)), (0, .ref (hv_ad X b)), (3, .int (hv_I x3)), (4, .int (hv_I x4))]) hc dX2_take_112 (by decide) rfl ?_
  refine hv_aload_n hc dX2_take_114 rfl (hv_m 1 rfl) ?_
  refine hv_getR hc fl_X2_12 (sh_X2 hb) rfl dX2_take_115 ?_
  refine hv_aload_n hc dX2_take_118 rfl (hv_m 1 rfl) ?_
  refine hv_getR hc fl_X2_12 (sh_X2 hb) rfl dX2_take_119 ?_
  refine hv_iload hc dX2_take_122 (hv_m 0 rfl) ?_
  refine hv_callVi hc (c_X1_turnOf (b + 1) (hv_h2c hb) r1 m2) yv_X1_turnOf tw_701 (sh_X1 (hv_h2c hb)) rfl rfl rfl rfl (Nat.le_of_ble_eq_true rfl) (Nat.le_of_ble_eq_true rfl) (Nat.zero_le _) (Nat.zero_le _) dX2_take_124 (fun r3 m4 => ?_)
  refine hv_aload_n hc dX2_take_127 rfl (hv_m 1 rfl) ?_
  refine hv_aload_n hc dX2_take_128 rfl (hv_m 1 rfl) ?_
  refine hv_getR hc fl_X2_12 (sh_X2 hb) rfl dX2_take_129 ?_
  refine hv_iload hc dX2_take_132 (hv_m 0 rfl) ?_
  refine hv_callVi hc (c_X1_belowOf (b + 1) (hv_h2c hb) r1 m4) yv_X1_belowOf tw_705 (sh_X1 (hv_h2c hb)) rfl rfl rfl rfl (Nat.le_of_ble_eq_true rfl) (Nat.le_of_ble_eq_true rfl) (Nat.zero_le _) (Nat.zero_le _) dX2_take_134 (fun r5 m6 => ?_)
  refine hv_iload hc dX2_take_137 (hv_m 3 rfl) ?_
  refine hv_callVi hc (c_X2_merge b hb r5 x4 m6) yv_X2_merge tw_766 (sh_X2 hb) rfl rfl rfl rfl (Nat.le_of_ble_eq_true rfl) (Nat.le_of_ble_eq_true rfl) (Nat.zero_le _) (Nat.zero_le _) dX2_take_139 (fun r7 m8 => ?_)
  refine hv_callVi hc (c_X1_heap (b + 1) (hv_h2c hb) r3 r7 m8) yv_X1_heap tw_670 (sh_X1 (hv_h2c hb)) rfl rfl rfl rfl (Nat.le_of_ble_eq_true rfl) (Nat.le_of_ble_eq_true rfl) (Nat.zero_le _) (Nat.zero_le _) dX2_take_142 (fun r9 m10 => ?_)
  exact hv_iret hc dX2_take_145
def B_X2_take_58 (b : Nat) (R58 : Int → Int → Int → Int → hMem → hRs) (x3 x4 x5 x6 : Int) (mem : hMem) : hRs := hv_lt x6 64 (hv_eq x5 0 (J_X2_take_104 b x3 x4 mem) (hv_b (f_X1_firstOf (b + 1) x5 mem) (fun r1 m2 => hv_b (f_X2_putInto b r1 x4 m2) (fun r3 m4 => hv_b (f_X1_restOf (b + 1) x5 m4) (fun r5 m6 => hv_set (x6 + 1) (fun y7 => R58 x3 r3 r5 y7 m6)))))) (J_X2_take_104 b x3 x4 mem)
def L_X2_take_58 (b : Nat) : Nat → Int → Int → Int → Int → hMem → hRs
  | 0 => fun _ _ _ _ _ => none
  | n + 1 => B_X2_take_58 b (L_X2_take_58 b n)
set_option maxRecDepth 100000 in
theorem gB_X2_take_58 {X : hv_X} (hc : hv_C X cX2_take 7 RX2 (some FieldType.int) 4 0 0) (b : Nat) (hb : b = 26 ∨ b = 42) (R58 : Int → Int → Int → Int → hMem → hRs) (hR58 : ∀ (x3 x4 x5 x6 : Int) (mem : hMem), hv_R X 7 0 0 (hv_QX X 0 0 0) (R58 x3 x4 x5 x6 mem) mem [] [(0, .ref (hv_ad X b)), (3, .int (hv_I x3)), (4, .int (hv_I x4)), (5, .int (hv_I x5)), (6, .int (hv_I x6))] [] 58) (x3 x4 x5 x6 : Int) (mem : hMem) : hv_R X 7 0 0 (hv_QX X 0 0 0) (B_X2_take_58 b R58 x3 x4 x5 x6 mem) mem [] [(0, .ref (hv_ad X b)), (3, .int (hv_I x3)), (4, .int (hv_I x4)), (5, .int (hv_I x5)), (6, .int (hv_I x6))] [] 58 := by
  unfold B_X2_take_58
  refine hv_iload hc dX2_take_58 (hv_m 4 rfl) ?_
  refine hv_bipush hc dX2_take_60 (by decide) ?_
  refine hv_icmp_ge (tgt := 104) hc dX2_take_62 (by decide) ?_ ?_
  · exact hv_pick [0, 1, 2] rfl (g_X2_take_104 hc b hb x3 x4 mem)
  · refine hv_iload hc dX2_take_65 (hv_m 3 rfl) ?_
    refine hv_if_eq (tgt := 104) hc dX2_take_67 (by decide) ?_ ?_
    · exact hv_pick [0, 1, 2] rfl (g_X2_take_104 hc b hb x3 x4 mem)
    · refine hv_aload_n hc dX2_take_70 rfl (hv_m 0 rfl) ?_
      refine hv_aload_n hc dX2_take_71 rfl (hv_m 0 rfl) ?_
      refine hv_getR hc fl_X2_12 (sh_X2 hb) rfl dX2_take_72 ?_
      refine hv_iload hc dX2_take_75 (hv_m 3 rfl) ?_
      refine hv_callVi hc (c_X1_firstOf (b + 1) (hv_h2c hb) x5 mem) yv_X1_firstOf tw_713 (sh_X1 (hv_h2c hb)) rfl rfl rfl rfl (Nat.le_of_ble_eq_true rfl) (Nat.le_of_ble_eq_true rfl) (Nat.zero_le _) (Nat.zero_le _) dX2_take_77 (fun r1 m2 => ?_)
      refine hv_iload hc dX2_take_80 (hv_m 2 rfl) ?_
      refine hv_callVi hc (c_X2_putInto b hb r1 x4 m2) yv_X2_putInto tw_709 (sh_X2 hb) rfl rfl rfl rfl (Nat.le_of_ble_eq_true rfl) (Nat.le_of_ble_eq_true rfl) (Nat.zero_le _) (Nat.zero_le _) dX2_take_82 (fun r3 m4 => ?_)
      refine hv_istore (lv' := [(4, .int (hv_I r3)), (0, .ref (hv_ad X b)), (3, .int (hv_I x3)), (5, .int (hv_I x5)), (6, .int (hv_I x6))]) hc dX2_take_85 (by decide) rfl ?_
      refine hv_aload_n hc dX2_take_87 rfl (hv_m 1 rfl) ?_
      refine hv_getR hc fl_X2_12 (sh_X2 hb) rfl dX2_take_88 ?_
      refine hv_iload hc dX2_take_91 (hv_m 3 rfl) ?_
      refine hv_callVi hc (c_X1_restOf (b + 1) (hv_h2c hb) x5 m4) yv_X1_restOf tw_714 (sh_X1 (hv_h2c hb)) rfl rfl rfl rfl (Nat.le_of_ble_eq_true rfl) (Nat.le_of_ble_eq_true rfl) (Nat.zero_le _) (Nat.zero_le _) dX2_take_93 (fun r5 m6 => ?_)
      refine hv_istore (lv' := [(5, .int (hv_I r5)), (4, .int (hv_I r3)), (0, .ref (hv_ad X b)), (3, .int (hv_I x3)), (6, .int (hv_I x6))]) hc dX2_take_96 (by decide) rfl ?_
      refine hv_iinc_s (lvf := fun y7 => [(6, .int (hv_I y7)), (5, .int (hv_I r5)), (4, .int (hv_I r3)), (0, .ref (hv_ad X b)), (3, .int (hv_I x3))]) hc dX2_take_98 (by decide) (hv_m 4 rfl) (fun _ => rfl) (fun y7 => ?_)
      refine hv_goto (tgt := 58) hc dX2_take_101 (by decide) ?_
      exact hv_pick [3, 4, 2, 1, 0] rfl (hR58 x3 r3 r5 y7 m6)
theorem g_X2_take_58 {X : hv_X} (hc : hv_C X cX2_take 7 RX2 (some FieldType.int) 4 0 0) (b : Nat) (hb : b = 26 ∨ b = 42) : ∀ (n : Nat) (x3 x4 x5 x6 : Int) (mem : hMem), hv_R X 7 0 0 (hv_QX X 0 0 0) (L_X2_take_58 b n x3 x4 x5 x6 mem) mem [] [(0, .ref (hv_ad X b)), (3, .int (hv_I x3)), (4, .int (hv_I x4)), (5, .int (hv_I x5)), (6, .int (hv_I x6))] [] 58 := by
  intro n
  induction n with
  | zero => intros; exact hv_none
  | succ n ih => exact gB_X2_take_58 hc b hb _ ih
def f_X2_take (b : Nat) (x1 : Int) (mem : hMem) : hRs := hv_b (f_X1_belowOf (b + 1) x1 mem) (fun r1 m2 => hv_eq r1 0 (hv_ret 0 m2) (hv_b (f_X2_leastOf b r1 m2) (fun r3 m4 => hv_b (f_X1_belowOf (b + 1) r3 m4) (fun r5 m6 => hv_b (f_X2_turned b r5 m6) (fun r7 m8 => hv_b (f_X2_allBut b r1 r3 m8) (fun r9 m10 => hv_b (f_X2_merge b r7 r9 m10) (fun r11 m12 => hv_b (f_X1_singlesOf (b + 1) r3 m12) (fun r13 m14 => L_X2_take_58 b hv_FU r3 r11 r13 0 m14))))))))
set_option maxRecDepth 100000 in
set_option maxHeartbeats 4000000 in
theorem c_X2_take (b : Nat) (hb : b = 26 ∨ b = 42) (x1 : Int) (mem : hMem) : hv_Met 4 0 0 0 yX2_take cX2_take 7 (some FieldType.int) (fun ad _ _ => [.ref (ad b), .int (hv_I x1)]) mem (f_X2_take b x1 mem) := by
  refine hv_start (by decide +kernel) (fun _ _ _ => Nat.le_of_ble_eq_true rfl) ?_
  intro X hc
  have hc : hv_C X cX2_take 7 RX2 (some FieldType.int) 4 0 0 := hc
  show hv_R X 7 0 0 (hv_QX X 0 0 0) (f_X2_take b x1 mem) mem [] [(0, .ref (hv_ad X b)), (1, .int (hv_I x1))] [] 0
  unfold f_X2_take
  refine hv_aload_n hc dX2_take_0 rfl (hv_m 0 rfl) ?_
  refine hv_getR hc fl_X2_12 (sh_X2 hb) rfl dX2_take_1 ?_
  refine hv_iload_n hc dX2_take_4 rfl (hv_m 1 rfl) ?_
  refine hv_callVi hc (c_X1_belowOf (b + 1) (hv_h2c hb) x1 mem) yv_X1_belowOf tw_705 (sh_X1 (hv_h2c hb)) rfl rfl rfl rfl (Nat.le_of_ble_eq_true rfl) (Nat.le_of_ble_eq_true rfl) (Nat.zero_le _) (Nat.zero_le _) dX2_take_5 (fun r1 m2 => ?_)
  refine hv_istore_n (lv' := [(2, .int (hv_I r1)), (0, .ref (hv_ad X b)), (1, .int (hv_I x1))]) hc dX2_take_8 rfl (by decide) rfl ?_
  refine hv_iload_n hc dX2_take_9 rfl (hv_m 0 rfl) ?_
  refine hv_if_ne (tgt := 15) hc dX2_take_10 (by decide) ?_ ?_
  · refine hv_aload_n hc dX2_take_15 rfl (hv_m 1 rfl) ?_
    refine hv_iload_n hc dX2_take_16 rfl (hv_m 0 rfl) ?_
    refine hv_callVi hc (c_X2_leastOf b hb r1 m2) yv_X2_leastOf tw_754 (sh_X2 hb) rfl rfl rfl rfl (Nat.le_of_ble_eq_true rfl) (Nat.le_of_ble_eq_true rfl) (Nat.zero_le _) (Nat.zero_le _) dX2_take_17 (fun r3 m4 => ?_)
    refine hv_istore_n (lv' := [(3, .int (hv_I r3)), (2, .int (hv_I r1)), (0, .ref (hv_ad X b)), (1, .int (hv_I x1))]) hc dX2_take_20 rfl (by decide) rfl ?_
    refine hv_aload_n hc dX2_take_21 rfl (hv_m 2 rfl) ?_
    refine hv_aload_n hc dX2_take_22 rfl (hv_m 2 rfl) ?_
    refine hv_aload_n hc dX2_take_23 rfl (hv_m 2 rfl) ?_
    refine hv_getR hc fl_X2_12 (sh_X2 hb) rfl dX2_take_24 ?_
    refine hv_iload_n hc dX2_take_27 rfl (hv_m 0 rfl) ?_
    refine hv_callVi hc (c_X1_belowOf (b + 1) (hv_h2c hb) r3 m4) yv_X1_belowOf tw_705 (sh_X1 (hv_h2c hb)) rfl rfl rfl rfl (Nat.le_of_ble_eq_true rfl) (Nat.le_of_ble_eq_true rfl) (Nat.zero_le _) (Nat.zero_le _) dX2_take_28 (fun r5 m6 => ?_)
    refine hv_callVi hc (c_X2_turned b hb r5 m6) yv_X2_turned tw_758 (sh_X2 hb) rfl rfl rfl rfl (Nat.le_of_ble_eq_true rfl) (Nat.le_of_ble_eq_true rfl) (Nat.zero_le _) (Nat.zero_le _) dX2_take_31 (fun r7 m8 => ?_)
    refine hv_aload_n hc dX2_take_34 rfl (hv_m 2 rfl) ?_
    refine hv_iload_n hc dX2_take_35 rfl (hv_m 1 rfl) ?_
    refine hv_iload_n hc dX2_take_36 rfl (hv_m 0 rfl) ?_
    refine hv_callVi hc (c_X2_allBut b hb r1 r3 m8) yv_X2_allBut tw_762 (sh_X2 hb) rfl rfl rfl rfl (Nat.le_of_ble_eq_true rfl) (Nat.le_of_ble_eq_true rfl) (Nat.zero_le _) (Nat.zero_le _) dX2_take_37 (fun r9 m10 => ?_)
    refine hv_callVi hc (c_X2_merge b hb r7 r9 m10) yv_X2_merge tw_766 (sh_X2 hb) rfl rfl rfl rfl (Nat.le_of_ble_eq_true rfl) (Nat.le_of_ble_eq_true rfl) (Nat.zero_le _) (Nat.zero_le _) dX2_take_40 (fun r11 m12 => ?_)
    refine hv_istore (lv' := [(4, .int (hv_I r11)), (3, .int (hv_I r3)), (2, .int (hv_I r1)), (0, .ref (hv_ad X b)), (1, .int (hv_I x1))]) hc dX2_take_43 (by decide) rfl ?_
    refine hv_aload_n hc dX2_take_45 rfl (hv_m 3 rfl) ?_
    refine hv_getR hc fl_X2_12 (sh_X2 hb) rfl dX2_take_46 ?_
    refine hv_iload_n hc dX2_take_49 rfl (hv_m 1 rfl) ?_
    refine hv_callVi hc (c_X1_singlesOf (b + 1) (hv_h2c hb) r3 m12) yv_X1_singlesOf tw_734 (sh_X1 (hv_h2c hb)) rfl rfl rfl rfl (Nat.le_of_ble_eq_true rfl) (Nat.le_of_ble_eq_true rfl) (Nat.zero_le _) (Nat.zero_le _) dX2_take_50 (fun r13 m14 => ?_)
    refine hv_istore (lv' := [(5, .int (hv_I r13)), (4, .int (hv_I r11)), (3, .int (hv_I r3)), (2, .int (hv_I r1)), (0, .ref (hv_ad X b)), (1, .int (hv_I x1))]) hc dX2_take_53 (by decide) rfl ?_
    refine hv_iconst hc dX2_take_55 ?_
    refine hv_istore (lv' := [(6, .int (hv_I 0)), (5, .int (hv_I r13)), (4, .int (hv_I r11)), (3, .int (hv_I r3)), (2, .int (hv_I r1)), (0, .ref (hv_ad X b)), (1, .int (hv_I x1))]) hc dX2_take_56 (by decide) rfl ?_
    exact hv_pick [5, 3, 2, 1, 0] rfl (g_X2_take_58 hc b hb hv_FU r3 r11 r13 0 m14)
  · refine hv_iconst hc dX2_take_13 ?_
    exact hv_iret hc dX2_take_14
def J_X2_grow_113 (b : Nat) (x5 : Int) (mem : hMem) : hRs := hv_b (f_X10_set (b + 11) 30 (mem b 7) x5 mem) (fun r1 m2 => hv_b (f_X10_set (b + 12) 30 (m2 b 7) (m2 b 8) m2) (fun r3 m4 => hv_put m4 b 7 ((m4 b 7) + 1) (fun m5 => hv_ret 0 m5)))
set_option maxRecDepth 100000 in
theorem g_X2_grow_113 {X : hv_X} (hc : hv_C X cX2_grow 6 RX2 (none) 5 0 0) (b : Nat) (hb : b = 26 ∨ b = 42) (x5 : Int) (mem : hMem) : hv_R X 6 0 0 (hv_QX X 1 0 0) (J_X2_grow_113 b x5 mem) mem [] [(0, .ref (hv_ad X b)), (5, .int (hv_I x5))] [] 113 := by
  unfold J_X2_grow_113
  refine hv_aload_n hc dX2_grow_113 rfl (hv_m 0 rfl) ?_
  refine hv_getR hc fl_X2_18 (sh_X2 hb) rfl dX2_grow_114 ?_
  refine hv_aload_n hc dX2_grow_117 rfl (hv_m 0 rfl) ?_
  refine hv_getI hc fl_X2_58 (sh_X2 hb) rfl dX2_grow_118 ?_
  refine hv_iload hc dX2_grow_121 (hv_m 1 rfl) ?_
  refine hv_callSNv hc (c_X10_set (b + 11) 30 (sh_X2_11 hb) (Nat.le_of_ble_eq_true rfl) (mem b 7) x5 mem) ys_X10_set nl_15 rfl rfl rfl (Nat.le_of_ble_eq_true rfl) (Nat.le_of_ble_eq_true rfl) (Nat.zero_le _) (Nat.zero_le _) dX2_grow_123 (fun r1 m2 => ?_)
  refine hv_aload_n hc dX2_grow_126 rfl (hv_m 0 rfl) ?_
  refine hv_getR hc fl_X2_22 (sh_X2 hb) rfl dX2_grow_127 ?_
  refine hv_aload_n hc dX2_grow_130 rfl (hv_m 0 rfl) ?_
  refine hv_getI hc fl_X2_58 (sh_X2 hb) rfl dX2_grow_131 ?_
  refine hv_aload_n hc dX2_grow_134 rfl (hv_m 0 rfl) ?_
  refine hv_getI hc fl_X2_74 (sh_X2 hb) rfl dX2_grow_135 ?_
  refine hv_callSNv hc (c_X10_set (b + 12) 30 (sh_X2_12 hb) (Nat.le_of_ble_eq_true rfl) (m2 b 7) (m2 b 8) m2) ys_X10_set nl_15 rfl rfl rfl (Nat.le_of_ble_eq_true rfl) (Nat.le_of_ble_eq_true rfl) (Nat.zero_le _) (Nat.zero_le _) dX2_grow_138 (fun r3 m4 => ?_)
  refine hv_aload_n hc dX2_grow_141 rfl (hv_m 0 rfl) ?_
  refine hv_dup hc dX2_grow_142 rfl ?_
  refine hv_getI hc fl_X2_58 (sh_X2 hb) rfl dX2_grow_143 ?_
  refine hv_iconst hc dX2_grow_146 ?_
  refine hv_iadd hc dX2_grow_147 ?_
  refine hv_putI hc fp_X2_58 (sh_X2 hb) rfl dX2_grow_148 (fun m5 => ?_)
  exact hv_vret hc dX2_grow_151
def f_X2_grow (b : Nat) (x1 x2 x3 x4 : Int) (mem : hMem) : hRs := hv_b (f_X1_cells (b + 1) mem) (fun r1 m2 => hv_b (f_X10_set (b + 13) 30 (mem b 7) r1 m2) (fun r3 m4 => hv_b (f_X1_rows (b + 1) m4) (fun r5 m6 => hv_b (f_X10_set (b + 14) 30 (m4 b 7) r5 m6) (fun r7 m8 => hv_put m8 b 8 0 (fun m9 => hv_eq x1 1 (hv_b (f_X1_heap (b + 1) x4 0 m9) (fun r20 m21 => hv_b (f_X2_heapOf b x2 m21) (fun r22 m23 => hv_b (f_X2_join b r20 r22 m23) (fun r24 m25 => J_X2_grow_113 b r24 m25)))) (hv_eq x1 2 (hv_b (f_X2_heapOf b x2 m9) (fun r14 m15 => hv_b (f_X2_heapOf b x3 m15) (fun r16 m17 => hv_b (f_X2_join b r14 r16 m17) (fun r18 m19 => J_X2_grow_113 b r18 m19)))) (hv_eq x1 3 (hv_b (f_X2_heapOf b x2 m9) (fun r10 m11 => hv_b (f_X2_take b r10 m11) (fun r12 m13 => J_X2_grow_113 b r12 m13))) (J_X2_grow_113 b 0 m9))))))))
set_option maxRecDepth 100000 in
set_option maxHeartbeats 4000000 in
theorem c_X2_grow (b : Nat) (hb : b = 26 ∨ b = 42) (x1 x2 x3 x4 : Int) (mem : hMem) : hv_Met 5 0 0 1 yX2_grow cX2_grow 6 (none) (fun ad _ _ => [.ref (ad b), .int (hv_I x1), .int (hv_I x2), .int (hv_I x3), .int (hv_I x4)]) mem (f_X2_grow b x1 x2 x3 x4 mem) := by
  refine hv_start (by decide +kernel) (fun _ _ _ => Nat.le_of_ble_eq_true rfl) ?_
  intro X hc
  have hc : hv_C X cX2_grow 6 RX2 (none) 5 0 0 := hc
  show hv_R X 6 0 0 (hv_QX X 1 0 0) (f_X2_grow b x1 x2 x3 x4 mem) mem [] [(0, .ref (hv_ad X b)), (1, .int (hv_I x1)), (2, .int (hv_I x2)), (3, .int (hv_I x3)), (4, .int (hv_I x4))] [] 0
  unfold f_X2_grow
  refine hv_aload_n hc dX2_grow_0 rfl (hv_m 0 rfl) ?_
  refine hv_getR hc fl_X2_25 (sh_X2 hb) rfl dX2_grow_1 ?_
  refine hv_aload_n hc dX2_grow_4 rfl (hv_m 0 rfl) ?_
  refine hv_getI hc fl_X2_58 (sh_X2 hb) rfl dX2_grow_5 ?_
  refine hv_aload_n hc dX2_grow_8 rfl (hv_m 0 rfl) ?_
  refine hv_getR hc fl_X2_12 (sh_X2 hb) rfl dX2_grow_9 ?_
  refine hv_callVi hc (c_X1_cells (b + 1) (hv_h2c hb) mem) yv_X1_cells tw_661 (sh_X1 (hv_h2c hb)) rfl rfl rfl rfl (Nat.le_of_ble_eq_true rfl) (Nat.le_of_ble_eq_true rfl) (Nat.zero_le _) (Nat.zero_le _) dX2_grow_12 (fun r1 m2 => ?_)
  refine hv_callSNv hc (c_X10_set (b + 13) 30 (sh_X2_13 hb) (Nat.le_of_ble_eq_true rfl) (mem b 7) r1 m2) ys_X10_set nl_15 rfl rfl rfl (Nat.le_of_ble_eq_true rfl) (Nat.le_of_ble_eq_true rfl) (Nat.zero_le _) (Nat.zero_le _) dX2_grow_15 (fun r3 m4 => ?_)
  refine hv_aload_n hc dX2_grow_18 rfl (hv_m 0 rfl) ?_
  refine hv_getR hc fl_X2_28 (sh_X2 hb) rfl dX2_grow_19 ?_
  refine hv_aload_n hc dX2_grow_22 rfl (hv_m 0 rfl) ?_
  refine hv_getI hc fl_X2_58 (sh_X2 hb) rfl dX2_grow_23 ?_
  refine hv_aload_n hc dX2_grow_26 rfl (hv_m 0 rfl) ?_
  refine hv_getR hc fl_X2_12 (sh_X2 hb) rfl dX2_grow_27 ?_
  refine hv_callVi hc (c_X1_rows (b + 1) (hv_h2c hb) m4) yv_X1_rows tw_666 (sh_X1 (hv_h2c hb)) rfl rfl rfl rfl (Nat.le_of_ble_eq_true rfl) (Nat.le_of_ble_eq_true rfl) (Nat.zero_le _) (Nat.zero_le _) dX2_grow_30 (fun r5 m6 => ?_)
  refine hv_callSNv hc (c_X10_set (b + 14) 30 (sh_X2_14 hb) (Nat.le_of_ble_eq_true rfl) (m4 b 7) r5 m6) ys_X10_set nl_15 rfl rfl rfl (Nat.le_of_ble_eq_true rfl) (Nat.le_of_ble_eq_true rfl) (Nat.zero_le _) (Nat.zero_le _) dX2_grow_33 (fun r7 m8 => ?_)
  refine hv_aload_n hc dX2_grow_36 rfl (hv_m 0 rfl) ?_
  refine hv_iconst hc dX2_grow_37 ?_
  refine hv_putI hc fp_X2_74 (sh_X2 hb) rfl dX2_grow_38 (fun m9 => ?_)
  refine hv_iconst hc dX2_grow_41 ?_
  refine hv_istore (lv' := [(5, .int (hv_I 0)), (0, .ref (hv_ad X b)), (1, .int (hv_I x1)), (2, .int (hv_I x2)), (3, .int (hv_I x3)), (4, .int (hv_I x4))]) hc dX2_grow_42 (by decide) rfl ?_
  refine hv_iload_n hc dX2_grow_44 rfl (hv_m 2 rfl) ?_
  refine hv_iconst hc dX2_grow_45 ?_
  refine hv_icmp_ne (tgt := 73) hc dX2_grow_46 (by decide) ?_ ?_
  · refine hv_iload_n hc dX2_grow_73 rfl (hv_m 2 rfl) ?_
    refine hv_iconst hc dX2_grow_74 ?_
    refine hv_icmp_ne (tgt := 97) hc dX2_grow_75 (by decide) ?_ ?_
    · refine hv_iload_n hc dX2_grow_97 rfl (hv_m 2 rfl) ?_
      refine hv_iconst hc dX2_grow_98 ?_
      refine hv_icmp_ne (tgt := 113) hc dX2_grow_99 (by decide) ?_ ?_
      · exact hv_pick [1, 0] rfl (g_X2_grow_113 hc b hb 0 m9)
      · refine hv_aload_n hc dX2_grow_102 rfl (hv_m 1 rfl) ?_
        refine hv_aload_n hc dX2_grow_103 rfl (hv_m 1 rfl) ?_
        refine hv_iload_n hc dX2_grow_104 rfl (hv_m 3 rfl) ?_
        refine hv_callVi hc (c_X2_heapOf b hb x2 m9) yv_X2_heapOf tw_693 (sh_X2 hb) rfl rfl rfl rfl (Nat.le_of_ble_eq_true rfl) (Nat.le_of_ble_eq_true rfl) (Nat.zero_le _) (Nat.zero_le _) dX2_grow_105 (fun r10 m11 => ?_)
        refine hv_callVi hc (c_X2_take b hb r10 m11) yv_X2_take tw_750 (sh_X2 hb) rfl rfl rfl rfl (Nat.le_of_ble_eq_true rfl) (Nat.le_of_ble_eq_true rfl) (Nat.zero_le _) (Nat.zero_le _) dX2_grow_108 (fun r12 m13 => ?_)
        refine hv_istore (lv' := [(5, .int (hv_I r12)), (0, .ref (hv_ad X b)), (1, .int (hv_I x1)), (2, .int (hv_I x2)), (3, .int (hv_I x3)), (4, .int (hv_I x4))]) hc dX2_grow_111 (by decide) rfl ?_
        exact hv_pick [1, 0] rfl (g_X2_grow_113 hc b hb r12 m13)
    · refine hv_aload_n hc dX2_grow_78 rfl (hv_m 1 rfl) ?_
      refine hv_aload_n hc dX2_grow_79 rfl (hv_m 1 rfl) ?_
      refine hv_iload_n hc dX2_grow_80 rfl (hv_m 3 rfl) ?_
      refine hv_callVi hc (c_X2_heapOf b hb x2 m9) yv_X2_heapOf tw_693 (sh_X2 hb) rfl rfl rfl rfl (Nat.le_of_ble_eq_true rfl) (Nat.le_of_ble_eq_true rfl) (Nat.zero_le _) (Nat.zero_le _) dX2_grow_81 (fun r14 m15 => ?_)
      refine hv_aload_n hc dX2_grow_84 rfl (hv_m 1 rfl) ?_
      refine hv_iload_n hc dX2_grow_85 rfl (hv_m 4 rfl) ?_
      refine hv_callVi hc (c_X2_heapOf b hb x3 m15) yv_X2_heapOf tw_693 (sh_X2 hb) rfl rfl rfl rfl (Nat.le_of_ble_eq_true rfl) (Nat.le_of_ble_eq_true rfl) (Nat.zero_le _) (Nat.zero_le _) dX2_grow_86 (fun r16 m17 => ?_)
      refine hv_callVi hc (c_X2_join b hb r14 r16 m17) yv_X2_join tw_697 (sh_X2 hb) rfl rfl rfl rfl (Nat.le_of_ble_eq_true rfl) (Nat.le_of_ble_eq_true rfl) (Nat.zero_le _) (Nat.zero_le _) dX2_grow_89 (fun r18 m19 => ?_)
      refine hv_istore (lv' := [(5, .int (hv_I r18)), (0, .ref (hv_ad X b)), (1, .int (hv_I x1)), (2, .int (hv_I x2)), (3, .int (hv_I x3)), (4, .int (hv_I x4))]) hc dX2_grow_92 (by decide) rfl ?_
      refine hv_goto (tgt := 113) hc dX2_grow_94 (by decide) ?_
      exact hv_pick [1, 0] rfl (g_X2_grow_113 hc b hb r18 m19)
  · refine hv_aload_n hc dX2_grow_49 rfl (hv_m 1 rfl) ?_
    refine hv_aload_n hc dX2_grow_50 rfl (hv_m 1 rfl) ?_
    refine hv_getR hc fl_X2_12 (sh_X2 hb) rfl dX2_grow_51 ?_
    refine hv_iload hc dX2_grow_54 (hv_m 5 rfl) ?_
    refine hv_iconst hc dX2_grow_56 ?_
    refine hv_callVi hc (c_X1_heap (b + 1) (hv_h2c hb) x4 0 m9) yv_X1_heap tw_670 (sh_X1 (hv_h2c hb)) rfl rfl rfl rfl (Nat.le_of_ble_eq_true rfl) (Nat.le_of_ble_eq_true rfl) (Nat.zero_le _) (Nat.zero_le _) dX2_grow_57 (fun r20 m21 => ?_)
    refine hv_aload_n hc dX2_grow_60 rfl (hv_m 1 rfl) ?_
    refine hv_iload_n hc dX2_grow_61 rfl (hv_m 3 rfl) ?_
    refine hv_callVi hc (c_X2_heapOf b hb x2 m21) yv_X2_heapOf tw_693 (sh_X2 hb) rfl rfl rfl rfl (Nat.le_of_ble_eq_true rfl) (Nat.le_of_ble_eq_true rfl) (Nat.zero_le _) (Nat.zero_le _) dX2_grow_62 (fun r22 m23 => ?_)
    refine hv_callVi hc (c_X2_join b hb r20 r22 m23) yv_X2_join tw_697 (sh_X2 hb) rfl rfl rfl rfl (Nat.le_of_ble_eq_true rfl) (Nat.le_of_ble_eq_true rfl) (Nat.zero_le _) (Nat.zero_le _) dX2_grow_65 (fun r24 m25 => ?_)
    refine hv_istore (lv' := [(5, .int (hv_I r24)), (0, .ref (hv_ad X b)), (1, .int (hv_I x1)), (2, .int (hv_I x2)), (3, .int (hv_I x3)), (4, .int (hv_I x4))]) hc dX2_grow_68 (by decide) rfl ?_
    refine hv_goto (tgt := 113) hc dX2_grow_70 (by decide) ?_
    exact hv_pick [1, 0] rfl (g_X2_grow_113 hc b hb r24 m25)
def f_X2_cut (b : Nat) (x1 : Int) (mem : hMem) : hRs := hv_lt x1 (mem b 7) (hv_b (f_X10_at (b + 13) 30 x1 mem) (fun r1 m2 => hv_b (f_X10_at (b + 14) 30 x1 m2) (fun r3 m4 => hv_b (f_X1_cut (b + 1) r1 r3 m4) (fun r5 m6 => hv_put m6 b 7 x1 (fun m7 => hv_ret 0 m7))))) (hv_ret 0 mem)
set_option maxRecDepth 100000 in
set_option maxHeartbeats 4000000 in
theorem c_X2_cut (b : Nat) (hb : b = 26 ∨ b = 42) (x1 : Int) (mem : hMem) : hv_Met 1 0 0 1 yX2_cut cX2_cut 2 (none) (fun ad _ _ => [.ref (ad b), .int (hv_I x1)]) mem (f_X2_cut b x1 mem) := by
  refine hv_start (by decide +kernel) (fun _ _ _ => Nat.le_of_ble_eq_true rfl) ?_
  intro X hc
  have hc : hv_C X cX2_cut 2 RX2 (none) 1 0 0 := hc
  show hv_R X 2 0 0 (hv_QX X 1 0 0) (f_X2_cut b x1 mem) mem [] [(0, .ref (hv_ad X b)), (1, .int (hv_I x1))] [] 0
  unfold f_X2_cut
  refine hv_iload_n hc dX2_cut_0 rfl (hv_m 1 rfl) ?_
  refine hv_aload_n hc dX2_cut_1 rfl (hv_m 0 rfl) ?_
  refine hv_getI hc fl_X2_58 (sh_X2 hb) rfl dX2_cut_2 ?_
  refine hv_icmp_ge (tgt := 36) hc dX2_cut_5 (by decide) ?_ ?_
  · exact hv_vret hc dX2_cut_36
  · refine hv_aload_n hc dX2_cut_8 rfl (hv_m 0 rfl) ?_
    refine hv_getR hc fl_X2_12 (sh_X2 hb) rfl dX2_cut_9 ?_
    refine hv_aload_n hc dX2_cut_12 rfl (hv_m 0 rfl) ?_
    refine hv_getR hc fl_X2_25 (sh_X2 hb) rfl dX2_cut_13 ?_
    refine hv_iload_n hc dX2_cut_16 rfl (hv_m 1 rfl) ?_
    refine hv_callSNi hc (c_X10_at (b + 13) 30 (sh_X2_13 hb) (Nat.le_of_ble_eq_true rfl) x1 mem) ys_X10_at nl_10 rfl rfl rfl (Nat.le_of_ble_eq_true rfl) (Nat.le_of_ble_eq_true rfl) (Nat.zero_le _) (Nat.zero_le _) dX2_cut_17 (fun r1 m2 => ?_)
    refine hv_aload_n hc dX2_cut_20 rfl (hv_m 0 rfl) ?_
    refine hv_getR hc fl_X2_28 (sh_X2 hb) rfl dX2_cut_21 ?_
    refine hv_iload_n hc dX2_cut_24 rfl (hv_m 1 rfl) ?_
    refine hv_callSNi hc (c_X10_at (b + 14) 30 (sh_X2_14 hb) (Nat.le_of_ble_eq_true rfl) x1 m2) ys_X10_at nl_10 rfl rfl rfl (Nat.le_of_ble_eq_true rfl) (Nat.le_of_ble_eq_true rfl) (Nat.zero_le _) (Nat.zero_le _) dX2_cut_25 (fun r3 m4 => ?_)
    refine hv_callVv hc (c_X1_cut (b + 1) (hv_h2c hb) r1 r3 m4) yv_X1_cut tw_554 (sh_X1 (hv_h2c hb)) rfl rfl rfl rfl (Nat.le_of_ble_eq_true rfl) (Nat.le_of_ble_eq_true rfl) (Nat.zero_le _) (Nat.zero_le _) dX2_cut_28 (fun r5 m6 => ?_)
    refine hv_aload_n hc dX2_cut_31 rfl (hv_m 0 rfl) ?_
    refine hv_iload_n hc dX2_cut_32 rfl (hv_m 1 rfl) ?_
    refine hv_putI hc fp_X2_58 (sh_X2 hb) rfl dX2_cut_33 (fun m7 => ?_)
    exact hv_vret hc dX2_cut_36
def J_X2_linksToEmpty_89 (b : Nat) (x2 x3 x4 : Int) (mem : hMem) : hRs := hv_b (f_X1_cut (b + 1) x2 x3 mem) (fun r1 m2 => hv_ret x4 m2)
set_option maxRecDepth 100000 in
theorem g_X2_linksToEmpty_89 {X : hv_X} (hc : hv_C X cX2_linksToEmpty 7 RX2 (some FieldType.int) 5 0 0) (b : Nat) (hb : b = 26 ∨ b = 42) (x2 x3 x4 : Int) (mem : hMem) : hv_R X 7 0 0 (hv_QX X 0 0 0) (J_X2_linksToEmpty_89 b x2 x3 x4 mem) mem [] [(0, .ref (hv_ad X b)), (2, .int (hv_I x2)), (3, .int (hv_I x3)), (4, .int (hv_I x4))] [] 89 := by
  unfold J_X2_linksToEmpty_89
  refine hv_aload_n hc dX2_linksToEmpty_89 rfl (hv_m 0 rfl) ?_
  refine hv_getR hc fl_X2_12 (sh_X2 hb) rfl dX2_linksToEmpty_90 ?_
  refine hv_iload_n hc dX2_linksToEmpty_93 rfl (hv_m 1 rfl) ?_
  refine hv_iload_n hc dX2_linksToEmpty_94 rfl (hv_m 2 rfl) ?_
  refine hv_callVv hc (c_X1_cut (b + 1) (hv_h2c hb) x2 x3 mem) yv_X1_cut tw_554 (sh_X1 (hv_h2c hb)) rfl rfl rfl rfl (Nat.le_of_ble_eq_true rfl) (Nat.le_of_ble_eq_true rfl) (Nat.zero_le _) (Nat.zero_le _) dX2_linksToEmpty_95 (fun r1 m2 => ?_)
  refine hv_iload hc dX2_linksToEmpty_98 (hv_m 3 rfl) ?_
  exact hv_iret hc dX2_linksToEmpty_100
def B_X2_linksToEmpty_34 (b : Nat) (R34 : Int → Int → Int → Int → Int → hMem → hRs) (x2 x3 x4 x5 x6 : Int) (mem : hMem) : hRs := hv_lt x6 24 (hv_eq x5 0 (J_X2_linksToEmpty_89 b x2 x3 x4 mem) (hv_put mem b 8 0 (fun m1 => hv_b (f_X2_take b x5 m1) (fun r2 m3 => hv_set (x4 + (m3 b 8)) (fun y4 => hv_b (f_J9_max_7cf53 (m3 b 9) (m3 b 8) m3) (fun r5 m6 => hv_put m6 b 9 r5 (fun m7 => hv_set (x6 + 1) (fun y8 => R34 x2 x3 y4 r2 y8 m7)))))))) (J_X2_linksToEmpty_89 b x2 x3 x4 mem)
def L_X2_linksToEmpty_34 (b : Nat) : Nat → Int → Int → Int → Int → Int → hMem → hRs
  | 0 => fun _ _ _ _ _ _ => none
  | n + 1 => B_X2_linksToEmpty_34 b (L_X2_linksToEmpty_34 b n)
set_option maxRecDepth 100000 in
theorem gB_X2_linksToEmpty_34 {X : hv_X} (hc : hv_C X cX2_linksToEmpty 7 RX2 (some FieldType.int) 5 0 0) (b : Nat) (hb : b = 26 ∨ b = 42) (R34 : Int → Int → Int → Int → Int → hMem → hRs) (hR34 : ∀ (x2 x3 x4 x5 x6 : Int) (mem : hMem), hv_R X 7 0 0 (hv_QX X 0 0 0) (R34 x2 x3 x4 x5 x6 mem) mem [] [(0, .ref (hv_ad X b)), (2, .int (hv_I x2)), (3, .int (hv_I x3)), (4, .int (hv_I x4)), (5, .int (hv_I x5)), (6, .int (hv_I x6))] [] 34) (x2 x3 x4 x5 x6 : Int) (mem : hMem) : hv_R X 7 0 0 (hv_QX X 0 0 0) (B_X2_linksToEmpty_34 b R34 x2 x3 x4 x5 x6 mem) mem [] [(0, .ref (hv_ad X b)), (2, .int (hv_I x2)), (3, .int (hv_I x3)), (4, .int (hv_I x4)), (5, .int (hv_I x5)), (6, .int (hv_I x6))] [] 34 := by
  unfold B_X2_linksToEmpty_34
  refine hv_iload hc dX2_linksToEmpty_34 (hv_m 5 rfl) ?_
  refine hv_bipush hc dX2_linksToEmpty_36 (by decide) ?_
  refine hv_icmp_ge (tgt := 89) hc dX2_linksToEmpty_38 (by decide) ?_ ?_
  · exact hv_pick [0, 1, 2, 3] rfl (g_X2_linksToEmpty_89 hc b hb x2 x3 x4 mem)
  · refine hv_iload hc dX2_linksToEmpty_41 (hv_m 4 rfl) ?_
    refine hv_if_eq (tgt := 89) hc dX2_linksToEmpty_43 (by decide) ?_ ?_
    · exact hv_pick [0, 1, 2, 3] rfl (g_X2_linksToEmpty_89 hc b hb x2 x3 x4 mem)
    · refine hv_aload_n hc dX2_linksToEmpty_46 rfl (hv_m 0 rfl) ?_
      refine hv_iconst hc dX2_linksToEmpty_47 ?_
      refine hv_putI hc fp_X2_74 (sh_X2 hb) rfl dX2_linksToEmpty_48 (fun m1 => ?_)
      refine hv_aload_n hc dX2_linksToEmpty_51 rfl (hv_m 0 rfl) ?_
      refine hv_iload hc dX2_linksToEmpty_52 (hv_m 4 rfl) ?_
      refine hv_callVi hc (c_X2_take b hb x5 m1) yv_X2_take tw_750 (sh_X2 hb) rfl rfl rfl rfl (Nat.le_of_ble_eq_true rfl) (Nat.le_of_ble_eq_true rfl) (Nat.zero_le _) (Nat.zero_le _) dX2_linksToEmpty_54 (fun r2 m3 => ?_)
      refine hv_istore (lv' := [(5, .int (hv_I r2)), (0, .ref (hv_ad X b)), (2, .int (hv_I x2)), (3, .int (hv_I x3)), (4, .int (hv_I x4)), (6, .int (hv_I x6))]) hc dX2_linksToEmpty_57 (by decide) rfl ?_
      refine hv_iload hc dX2_linksToEmpty_59 (hv_m 4 rfl) ?_
      refine hv_aload_n hc dX2_linksToEmpty_61 rfl (hv_m 1 rfl) ?_
      refine hv_getI hc fl_X2_74 (sh_X2 hb) rfl dX2_linksToEmpty_62 ?_
      refine hv_iadd hc dX2_linksToEmpty_65 ?_
      refine hv_istore_s (lvf := fun y4 => [(4, .int (hv_I y4)), (5, .int (hv_I r2)), (0, .ref (hv_ad X b)), (2, .int (hv_I x2)), (3, .int (hv_I x3)), (6, .int (hv_I x6))]) hc dX2_linksToEmpty_66 (by decide) (fun _ => rfl) (fun y4 => ?_)
      refine hv_aload_n hc dX2_linksToEmpty_68 rfl (hv_m 2 rfl) ?_
      refine hv_aload_n hc dX2_linksToEmpty_69 rfl (hv_m 2 rfl) ?_
      refine hv_getI hc fl_X2_94 (sh_X2 hb) rfl dX2_linksToEmpty_70 ?_
      refine hv_aload_n hc dX2_linksToEmpty_73 rfl (hv_m 2 rfl) ?_
      refine hv_getI hc fl_X2_74 (sh_X2 hb) rfl dX2_linksToEmpty_74 ?_
      refine hv_callSi hc (c_J9_max_7cf53 (m3 b 9) (m3 b 8) m3) ys_J9_max_7cf53 tw_729 rfl rfl rfl (Nat.le_of_ble_eq_true rfl) (Nat.le_of_ble_eq_true rfl) (Nat.zero_le _) (Nat.zero_le _) dX2_linksToEmpty_77 (fun r5 m6 => ?_)
      refine hv_putI hc fp_X2_94 (sh_X2 hb) rfl dX2_linksToEmpty_80 (fun m7 => ?_)
      refine hv_iinc_s (lvf := fun y8 => [(6, .int (hv_I y8)), (4, .int (hv_I y4)), (5, .int (hv_I r2)), (0, .ref (hv_ad X b)), (2, .int (hv_I x2)), (3, .int (hv_I x3))]) hc dX2_linksToEmpty_83 (by decide) (hv_m 5 rfl) (fun _ => rfl) (fun y8 => ?_)
      refine hv_goto (tgt := 34) hc dX2_linksToEmpty_86 (by decide) ?_
      exact hv_pick [3, 4, 5, 1, 2, 0] rfl (hR34 x2 x3 y4 r2 y8 m7)
theorem g_X2_linksToEmpty_34 {X : hv_X} (hc : hv_C X cX2_linksToEmpty 7 RX2 (some FieldType.int) 5 0 0) (b : Nat) (hb : b = 26 ∨ b = 42) : ∀ (n : Nat) (x2 x3 x4 x5 x6 : Int) (mem : hMem), hv_R X 7 0 0 (hv_QX X 0 0 0) (L_X2_linksToEmpty_34 b n x2 x3 x4 x5 x6 mem) mem [] [(0, .ref (hv_ad X b)), (2, .int (hv_I x2)), (3, .int (hv_I x3)), (4, .int (hv_I x4)), (5, .int (hv_I x5)), (6, .int (hv_I x6))] [] 34 := by
  intro n
  induction n with
  | zero => intros; exact hv_none
  | succ n ih => exact gB_X2_linksToEmpty_34 hc b hb _ ih
def f_X2_linksToEmpty (b : Nat) (x1 : Int) (mem : hMem) : hRs := hv_b (f_X1_cells (b + 1) mem) (fun r1 m2 => hv_b (f_X1_rows (b + 1) m2) (fun r3 m4 => hv_b (f_X2_heapOf b x1 m4) (fun r5 m6 => hv_put m6 b 9 0 (fun m7 => L_X2_linksToEmpty_34 b hv_FU r1 r3 0 r5 0 m7))))
set_option maxRecDepth 100000 in
set_option maxHeartbeats 4000000 in
theorem c_X2_linksToEmpty (b : Nat) (hb : b = 26 ∨ b = 42) (x1 : Int) (mem : hMem) : hv_Met 5 0 0 0 yX2_linksToEmpty cX2_linksToEmpty 7 (some FieldType.int) (fun ad _ _ => [.ref (ad b), .int (hv_I x1)]) mem (f_X2_linksToEmpty b x1 mem) := by
  refine hv_start (by decide +kernel) (fun _ _ _ => Nat.le_of_ble_eq_true rfl) ?_
  intro X hc
  have hc : hv_C X cX2_linksToEmpty 7 RX2 (some FieldType.int) 5 0 0 := hc
  show hv_R X 7 0 0 (hv_QX X 0 0 0) (f_X2_linksToEmpty b x1 mem) mem [] [(0, .ref (hv_ad X b)), (1, .int (hv_I x1))] [] 0
  unfold f_X2_linksToEmpty
  refine hv_aload_n hc dX2_linksToEmpty_0 rfl (hv_m 0 rfl) ?_
  refine hv_getR hc fl_X2_12 (sh_X2 hb) rfl dX2_linksToEmpty_1 ?_
  refine hv_callVi hc (c_X1_cells (b + 1) (hv_h2c hb) mem) yv_X1_cells tw_661 (sh_X1 (hv_h2c hb)) rfl rfl rfl rfl (Nat.le_of_ble_eq_true rfl) (Nat.le_of_ble_eq_true rfl) (Nat.zero_le _) (Nat.zero_le _) dX2_linksToEmpty_4 (fun r1 m2 => ?_)
  refine hv_istore_n (lv' := [(2, .int (hv_I r1)), (0, .ref (hv_ad X b)), (1, .int (hv_I x1))]) hc dX2_linksToEmpty_7 rfl (by decide) rfl ?_
  refine hv_aload_n hc dX2_linksToEmpty_8 rfl (hv_m 1 rfl) ?_
  refine hv_getR hc fl_X2_12 (sh_X2 hb) rfl dX2_linksToEmpty_9 ?_
  refine hv_callVi hc (c_X1_rows (b + 1) (hv_h2c hb) m2) yv_X1_rows tw_666 (sh_X1 (hv_h2c hb)) rfl rfl rfl rfl (Nat.le_of_ble_eq_true rfl) (Nat.le_of_ble_eq_true rfl) (Nat.zero_le _) (Nat.zero_le _) dX2_linksToEmpty_12 (fun r3 m4 => ?_)
  refine hv_istore_n (lv' := [(3, .int (hv_I r3)), (2, .int (hv_I r1)), (0, .ref (hv_ad X b)), (1, .int (hv_I x1))]) hc dX2_linksToEmpty_15 rfl (by decide) rfl ?_
  refine hv_iconst hc dX2_linksToEmpty_16 ?_
  refine hv_istore (lv' := [(4, .int (hv_I 0)), (3, .int (hv_I r3)), (2, .int (hv_I r1)), (0, .ref (hv_ad X b)), (1, .int (hv_I x1))]) hc dX2_linksToEmpty_17 (by decide) rfl ?_
  refine hv_aload_n hc dX2_linksToEmpty_19 rfl (hv_m 3 rfl) ?_
  refine hv_iload_n hc dX2_linksToEmpty_20 rfl (hv_m 4 rfl) ?_
  refine hv_callVi hc (c_X2_heapOf b hb x1 m4) yv_X2_heapOf tw_693 (sh_X2 hb) rfl rfl rfl rfl (Nat.le_of_ble_eq_true rfl) (Nat.le_of_ble_eq_true rfl) (Nat.zero_le _) (Nat.zero_le _) dX2_linksToEmpty_21 (fun r5 m6 => ?_)
  refine hv_istore (lv' := [(5, .int (hv_I r5)), (4, .int (hv_I 0)), (3, .int (hv_I r3)), (2, .int (hv_I r1)), (0, .ref (hv_ad X b)), (1, .int (hv_I x1))]) hc dX2_linksToEmpty_24 (by decide) rfl ?_
  refine hv_aload_n hc dX2_linksToEmpty_26 rfl (hv_m 4 rfl) ?_
  refine hv_iconst hc dX2_linksToEmpty_27 ?_
  refine hv_putI hc fp_X2_94 (sh_X2 hb) rfl dX2_linksToEmpty_28 (fun m7 => ?_)
  refine hv_iconst hc dX2_linksToEmpty_31 ?_
  refine hv_istore (lv' := [(6, .int (hv_I 0)), (5, .int (hv_I r5)), (4, .int (hv_I 0)), (3, .int (hv_I r3)), (2, .int (hv_I r1)), (0, .ref (hv_ad X b)), (1, .int (hv_I x1))]) hc dX2_linksToEmpty_32 (by decide) rfl ?_
  exact hv_pick [5, 4, 3, 2, 1, 0] rfl (g_X2_linksToEmpty_34 hc b hb hv_FU r1 r3 0 r5 0 m7)
def f_X2_mostToEmpty (b : Nat) (x1 : Int) (mem : hMem) : hRs := hv_b (f_X2_linksToEmpty b x1 mem) (fun r1 m2 => hv_ret (m2 b 9) m2)
set_option maxRecDepth 100000 in
set_option maxHeartbeats 4000000 in
theorem c_X2_mostToEmpty (b : Nat) (hb : b = 26 ∨ b = 42) (x1 : Int) (mem : hMem) : hv_Met 6 0 0 0 yX2_mostToEmpty cX2_mostToEmpty 2 (some FieldType.int) (fun ad _ _ => [.ref (ad b), .int (hv_I x1)]) mem (f_X2_mostToEmpty b x1 mem) := by
  refine hv_start (by decide +kernel) (fun _ _ _ => Nat.le_of_ble_eq_true rfl) ?_
  intro X hc
  have hc : hv_C X cX2_mostToEmpty 2 RX2 (some FieldType.int) 6 0 0 := hc
  show hv_R X 2 0 0 (hv_QX X 0 0 0) (f_X2_mostToEmpty b x1 mem) mem [] [(0, .ref (hv_ad X b)), (1, .int (hv_I x1))] [] 0
  unfold f_X2_mostToEmpty
  refine hv_aload_n hc dX2_mostToEmpty_0 rfl (hv_m 0 rfl) ?_
  refine hv_iload_n hc dX2_mostToEmpty_1 rfl (hv_m 1 rfl) ?_
  refine hv_callVi hc (c_X2_linksToEmpty b hb x1 mem) yv_X2_linksToEmpty tw_994 (sh_X2 hb) rfl rfl rfl rfl (Nat.le_of_ble_eq_true rfl) (Nat.le_of_ble_eq_true rfl) (Nat.zero_le _) (Nat.zero_le _) dX2_mostToEmpty_2 (fun r1 m2 => ?_)
  refine hv_pop hc dX2_mostToEmpty_5 rfl ?_
  refine hv_aload_n hc dX2_mostToEmpty_6 rfl (hv_m 0 rfl) ?_
  refine hv_getI hc fl_X2_94 (sh_X2 hb) rfl dX2_mostToEmpty_7 ?_
  exact hv_iret hc dX2_mostToEmpty_10
def f_X3_known (mem : hMem) : hRs := hv_ret (mem 11 2) mem
set_option maxRecDepth 100000 in
set_option maxHeartbeats 4000000 in
theorem c_X3_known (mem : hMem) : hv_Met 0 0 0 0 yX3_known cX3_known 1 (some FieldType.int) (fun ad _ _ => [.ref (ad 11)]) mem (f_X3_known mem) := by
  refine hv_start (by decide +kernel) (fun _ _ _ => Nat.le_of_ble_eq_true rfl) ?_
  intro X hc
  have hc : hv_C X cX3_known 1 RX3 (some FieldType.int) 0 0 0 := hc
  show hv_R X 1 0 0 (hv_QX X 0 0 0) (f_X3_known mem) mem [] [(0, .ref (hv_ad X 11))] [] 0
  unfold f_X3_known
  refine hv_aload_n hc dX3_known_0 rfl (hv_m 0 rfl) ?_
  refine hv_getI hc fl_X3_18 sh_o_11 rfl dX3_known_1 ?_
  exact hv_iret hc dX3_known_4
def f_X3_has (x1 : Int) (mem : hMem) : hRs := hv_lt x1 0 (hv_zr 0 mem) (hv_lt x1 (mem 11 2) (hv_zr 1 mem) (hv_zr 0 mem))
set_option maxRecDepth 100000 in
set_option maxHeartbeats 4000000 in
theorem c_X3_has (x1 : Int) (mem : hMem) : hv_Met 0 0 0 0 yX3_has cX3_has 2 (some FieldType.boolean) (fun ad _ _ => [.ref (ad 11), .int (hv_I x1)]) mem (f_X3_has x1 mem) := by
  refine hv_start (by decide +kernel) (fun _ _ _ => Nat.le_of_ble_eq_true rfl) ?_
  intro X hc
  have hc : hv_C X cX3_has 2 RX3 (some FieldType.boolean) 0 0 0 := hc
  show hv_R X 2 0 0 (hv_QX X 0 0 0) (f_X3_has x1 mem) mem [] [(0, .ref (hv_ad X 11)), (1, .int (hv_I x1))] [] 0
  unfold f_X3_has
  refine hv_iload_n hc dX3_has_0 rfl (hv_m 1 rfl) ?_
  refine hv_if_lt (tgt := 16) hc dX3_has_1 (by decide) ?_ ?_
  · refine hv_iconst hc dX3_has_16 ?_
    exact hv_zret hc dX3_has_17
  · refine hv_iload_n hc dX3_has_4 rfl (hv_m 1 rfl) ?_
    refine hv_aload_n hc dX3_has_5 rfl (hv_m 0 rfl) ?_
    refine hv_getI hc fl_X3_18 sh_o_11 rfl dX3_has_6 ?_
    refine hv_icmp_ge (tgt := 16) hc dX3_has_9 (by decide) ?_ ?_
    · refine hv_iconst hc dX3_has_16 ?_
      exact hv_zret hc dX3_has_17
    · refine hv_iconst hc dX3_has_12 ?_
      refine hv_goto (tgt := 17) hc dX3_has_13 (by decide) ?_
      exact hv_zret hc dX3_has_17
def f_X3_add (x1 x2 : Int) (mem : hMem) : hRs := hv_b (f_X10_set 12 30 (mem 11 2) x1 mem) (fun r1 m2 => hv_b (f_X10_set 13 30 (m2 11 2) x2 m2) (fun r3 m4 => hv_put m4 11 2 ((m4 11 2) + 1) (fun m5 => hv_ret ((m5 11 2) - 1) m5)))
set_option maxRecDepth 100000 in
set_option maxHeartbeats 4000000 in
theorem c_X3_add (x1 x2 : Int) (mem : hMem) : hv_Met 1 0 0 0 yX3_add cX3_add 3 (some FieldType.int) (fun ad _ _ => [.ref (ad 11), .int (hv_I x1), .int (hv_I x2)]) mem (f_X3_add x1 x2 mem) := by
  refine hv_start (by decide +kernel) (fun _ _ _ => Nat.le_of_ble_eq_true rfl) ?_
  intro X hc
  have hc : hv_C X cX3_add 3 RX3 (some FieldType.int) 1 0 0 := hc
  show hv_R X 3 0 0 (hv_QX X 0 0 0) (f_X3_add x1 x2 mem) mem [] [(0, .ref (hv_ad X 11)), (1, .int (hv_I x1)), (2, .int (hv_I x2))] [] 0
  unfold f_X3_add
  refine hv_aload_n hc dX3_add_0 rfl (hv_m 0 rfl) ?_
  refine hv_getR hc fl_X3_9 sh_o_11 rfl dX3_add_1 ?_
  refine hv_aload_n hc dX3_add_4 rfl (hv_m 0 rfl) ?_
  refine hv_getI hc fl_X3_18 sh_o_11 rfl dX3_add_5 ?_
  refine hv_iload_n hc dX3_add_8 rfl (hv_m 1 rfl) ?_
  refine hv_callSNv hc (c_X10_set 12 30 sh_a_12 (Nat.le_of_ble_eq_true rfl) (mem 11 2) x1 mem) ys_X10_set nl_11 rfl rfl rfl (Nat.le_of_ble_eq_true rfl) (Nat.le_of_ble_eq_true rfl) (Nat.zero_le _) (Nat.zero_le _) dX3_add_9 (fun r1 m2 => ?_)
  refine hv_aload_n hc dX3_add_12 rfl (hv_m 0 rfl) ?_
  refine hv_getR hc fl_X3_15 sh_o_11 rfl dX3_add_13 ?_
  refine hv_aload_n hc dX3_add_16 rfl (hv_m 0 rfl) ?_
  refine hv_getI hc fl_X3_18 sh_o_11 rfl dX3_add_17 ?_
  refine hv_iload_n hc dX3_add_20 rfl (hv_m 2 rfl) ?_
  refine hv_callSNv hc (c_X10_set 13 30 sh_a_13 (Nat.le_of_ble_eq_true rfl) (m2 11 2) x2 m2) ys_X10_set nl_11 rfl rfl rfl (Nat.le_of_ble_eq_true rfl) (Nat.le_of_ble_eq_true rfl) (Nat.zero_le _) (Nat.zero_le _) dX3_add_21 (fun r3 m4 => ?_)
  refine hv_aload_n hc dX3_add_24 rfl (hv_m 0 rfl) ?_
  refine hv_dup hc dX3_add_25 rfl ?_
  refine hv_getI hc fl_X3_18 sh_o_11 rfl dX3_add_26 ?_
  refine hv_iconst hc dX3_add_29 ?_
  refine hv_iadd hc dX3_add_30 ?_
  refine hv_putI hc fp_X3_18 sh_o_11 rfl dX3_add_31 (fun m5 => ?_)
  refine hv_aload_n hc dX3_add_34 rfl (hv_m 0 rfl) ?_
  refine hv_getI hc fl_X3_18 sh_o_11 rfl dX3_add_35 ?_
  refine hv_iconst hc dX3_add_38 ?_
  refine hv_isub hc dX3_add_39 ?_
  exact hv_iret hc dX3_add_40
def f_X3_cut (x1 : Int) (mem : hMem) : hRs := hv_put mem 11 2 x1 (fun m1 => hv_ret 0 m1)
set_option maxRecDepth 100000 in
set_option maxHeartbeats 4000000 in
theorem c_X3_cut (x1 : Int) (mem : hMem) : hv_Met 0 0 0 1 yX3_cut cX3_cut 2 (none) (fun ad _ _ => [.ref (ad 11), .int (hv_I x1)]) mem (f_X3_cut x1 mem) := by
  refine hv_start (by decide +kernel) (fun _ _ _ => Nat.le_of_ble_eq_true rfl) ?_
  intro X hc
  have hc : hv_C X cX3_cut 2 RX3 (none) 0 0 0 := hc
  show hv_R X 2 0 0 (hv_QX X 1 0 0) (f_X3_cut x1 mem) mem [] [(0, .ref (hv_ad X 11)), (1, .int (hv_I x1))] [] 0
  unfold f_X3_cut
  refine hv_aload_n hc dX3_cut_0 rfl (hv_m 0 rfl) ?_
  refine hv_iload_n hc dX3_cut_1 rfl (hv_m 1 rfl) ?_
  refine hv_putI hc fp_X3_18 sh_o_11 rfl dX3_cut_2 (fun m1 => ?_)
  exact hv_vret hc dX3_cut_5
def f_X3_keyOf (x1 : Int) (mem : hMem) : hRs := hv_b (f_X10_at 12 30 x1 mem) (fun r1 m2 => hv_ret r1 m2)
set_option maxRecDepth 100000 in
set_option maxHeartbeats 4000000 in
theorem c_X3_keyOf (x1 : Int) (mem : hMem) : hv_Met 1 0 0 0 yX3_keyOf cX3_keyOf 2 (some FieldType.int) (fun ad _ _ => [.ref (ad 11), .int (hv_I x1)]) mem (f_X3_keyOf x1 mem) := by
  refine hv_start (by decide +kernel) (fun _ _ _ => Nat.le_of_ble_eq_true rfl) ?_
  intro X hc
  have hc : hv_C X cX3_keyOf 2 RX3 (some FieldType.int) 1 0 0 := hc
  show hv_R X 2 0 0 (hv_QX X 0 0 0) (f_X3_keyOf x1 mem) mem [] [(0, .ref (hv_ad X 11)), (1, .int (hv_I x1))] [] 0
  unfold f_X3_keyOf
  refine hv_aload_n hc dX3_keyOf_0 rfl (hv_m 0 rfl) ?_
  refine hv_getR hc fl_X3_9 sh_o_11 rfl dX3_keyOf_1 ?_
  refine hv_iload_n hc dX3_keyOf_4 rfl (hv_m 1 rfl) ?_
  refine hv_callSNi hc (c_X10_at 12 30 sh_a_12 (Nat.le_of_ble_eq_true rfl) x1 mem) ys_X10_at nl_13 rfl rfl rfl (Nat.le_of_ble_eq_true rfl) (Nat.le_of_ble_eq_true rfl) (Nat.zero_le _) (Nat.zero_le _) dX3_keyOf_5 (fun r1 m2 => ?_)
  exact hv_iret hc dX3_keyOf_8
def f_X3_timeOf (x1 : Int) (mem : hMem) : hRs := hv_b (f_X10_at 13 30 x1 mem) (fun r1 m2 => hv_ret r1 m2)
set_option maxRecDepth 100000 in
set_option maxHeartbeats 4000000 in
theorem c_X3_timeOf (x1 : Int) (mem : hMem) : hv_Met 1 0 0 0 yX3_timeOf cX3_timeOf 2 (some FieldType.int) (fun ad _ _ => [.ref (ad 11), .int (hv_I x1)]) mem (f_X3_timeOf x1 mem) := by
  refine hv_start (by decide +kernel) (fun _ _ _ => Nat.le_of_ble_eq_true rfl) ?_
  intro X hc
  have hc : hv_C X cX3_timeOf 2 RX3 (some FieldType.int) 1 0 0 := hc
  show hv_R X 2 0 0 (hv_QX X 0 0 0) (f_X3_timeOf x1 mem) mem [] [(0, .ref (hv_ad X 11)), (1, .int (hv_I x1))] [] 0
  unfold f_X3_timeOf
  refine hv_aload_n hc dX3_timeOf_0 rfl (hv_m 0 rfl) ?_
  refine hv_getR hc fl_X3_15 sh_o_11 rfl dX3_timeOf_1 ?_
  refine hv_iload_n hc dX3_timeOf_4 rfl (hv_m 1 rfl) ?_
  refine hv_callSNi hc (c_X10_at 13 30 sh_a_13 (Nat.le_of_ble_eq_true rfl) x1 mem) ys_X10_at nl_13 rfl rfl rfl (Nat.le_of_ble_eq_true rfl) (Nat.le_of_ble_eq_true rfl) (Nat.zero_le _) (Nat.zero_le _) dX3_timeOf_5 (fun r1 m2 => ?_)
  exact hv_iret hc dX3_timeOf_8
def f_X3_turnOf (x1 : Int) (mem : hMem) : hRs := hv_b (f_X3_keyOf x1 mem) (fun r1 m2 => hv_ret ((r1 * 30) + x1) m2)
set_option maxRecDepth 100000 in
set_option maxHeartbeats 4000000 in
theorem c_X3_turnOf (x1 : Int) (mem : hMem) : hv_Met 2 0 0 0 yX3_turnOf cX3_turnOf 2 (some FieldType.int) (fun ad _ _ => [.ref (ad 11), .int (hv_I x1)]) mem (f_X3_turnOf x1 mem) := by
  refine hv_start (by decide +kernel) (fun _ _ _ => Nat.le_of_ble_eq_true rfl) ?_
  intro X hc
  have hc : hv_C X cX3_turnOf 2 RX3 (some FieldType.int) 2 0 0 := hc
  show hv_R X 2 0 0 (hv_QX X 0 0 0) (f_X3_turnOf x1 mem) mem [] [(0, .ref (hv_ad X 11)), (1, .int (hv_I x1))] [] 0
  unfold f_X3_turnOf
  refine hv_aload_n hc dX3_turnOf_0 rfl (hv_m 0 rfl) ?_
  refine hv_iload_n hc dX3_turnOf_1 rfl (hv_m 1 rfl) ?_
  refine hv_callVi hc (c_X3_keyOf x1 mem) yv_X3_keyOf tw_631 sh_o_11 rfl rfl rfl rfl (Nat.le_of_ble_eq_true rfl) (Nat.le_of_ble_eq_true rfl) (Nat.zero_le _) (Nat.zero_le _) dX3_turnOf_2 (fun r1 m2 => ?_)
  refine hv_bipush hc dX3_turnOf_5 (by decide) ?_
  refine hv_imul hc dX3_turnOf_7 ?_
  refine hv_iload_n hc dX3_turnOf_8 rfl (hv_m 1 rfl) ?_
  refine hv_iadd hc dX3_turnOf_9 ?_
  exact hv_iret hc dX3_turnOf_10
def f_X4_lawTold (mem : hMem) : hRs := hv_ret (mem 3 7) mem
set_option maxRecDepth 100000 in
set_option maxHeartbeats 4000000 in
theorem c_X4_lawTold (mem : hMem) : hv_Met 0 0 0 0 yX4_lawTold cX4_lawTold 1 (some FieldType.int) (fun ad _ _ => [.ref (ad 3)]) mem (f_X4_lawTold mem) := by
  refine hv_start (by decide +kernel) (fun _ _ _ => Nat.le_of_ble_eq_true rfl) ?_
  intro X hc
  have hc : hv_C X cX4_lawTold 1 RX4 (some FieldType.int) 0 0 0 := hc
  show hv_R X 1 0 0 (hv_QX X 0 0 0) (f_X4_lawTold mem) mem [] [(0, .ref (hv_ad X 3))] [] 0
  unfold f_X4_lawTold
  refine hv_aload_n hc dX4_lawTold_0 rfl (hv_m 0 rfl) ?_
  refine hv_getI hc fl_X4_43 sh_o_3 rfl dX4_lawTold_1 ?_
  exact hv_iret hc dX4_lawTold_4
def f_X4_handsTold (mem : hMem) : hRs := hv_ret (mem 3 8) mem
set_option maxRecDepth 100000 in
set_option maxHeartbeats 4000000 in
theorem c_X4_handsTold (mem : hMem) : hv_Met 0 0 0 0 yX4_handsTold cX4_handsTold 1 (some FieldType.int) (fun ad _ _ => [.ref (ad 3)]) mem (f_X4_handsTold mem) := by
  refine hv_start (by decide +kernel) (fun _ _ _ => Nat.le_of_ble_eq_true rfl) ?_
  intro X hc
  have hc : hv_C X cX4_handsTold 1 RX4 (some FieldType.int) 0 0 0 := hc
  show hv_R X 1 0 0 (hv_QX X 0 0 0) (f_X4_handsTold mem) mem [] [(0, .ref (hv_ad X 3))] [] 0
  unfold f_X4_handsTold
  refine hv_aload_n hc dX4_handsTold_0 rfl (hv_m 0 rfl) ?_
  refine hv_getI hc fl_X4_46 sh_o_3 rfl dX4_handsTold_1 ?_
  exact hv_iret hc dX4_handsTold_4
def f_X4_linesTold (mem : hMem) : hRs := hv_ret (mem 3 9) mem
set_option maxRecDepth 100000 in
set_option maxHeartbeats 4000000 in
theorem c_X4_linesTold (mem : hMem) : hv_Met 0 0 0 0 yX4_linesTold cX4_linesTold 1 (some FieldType.int) (fun ad _ _ => [.ref (ad 3)]) mem (f_X4_linesTold mem) := by
  refine hv_start (by decide +kernel) (fun _ _ _ => Nat.le_of_ble_eq_true rfl) ?_
  intro X hc
  have hc : hv_C X cX4_linesTold 1 RX4 (some FieldType.int) 0 0 0 := hc
  show hv_R X 1 0 0 (hv_QX X 0 0 0) (f_X4_linesTold mem) mem [] [(0, .ref (hv_ad X 3))] [] 0
  unfold f_X4_linesTold
  refine hv_aload_n hc dX4_linesTold_0 rfl (hv_m 0 rfl) ?_
  refine hv_getI hc fl_X4_49 sh_o_3 rfl dX4_linesTold_1 ?_
  exact hv_iret hc dX4_linesTold_4
def f_X4_versionsTold (mem : hMem) : hRs := hv_ret (mem 3 10) mem
set_option maxRecDepth 100000 in
set_option maxHeartbeats 4000000 in
theorem c_X4_versionsTold (mem : hMem) : hv_Met 0 0 0 0 yX4_versionsTold cX4_versionsTold 1 (some FieldType.int) (fun ad _ _ => [.ref (ad 3)]) mem (f_X4_versionsTold mem) := by
  refine hv_start (by decide +kernel) (fun _ _ _ => Nat.le_of_ble_eq_true rfl) ?_
  intro X hc
  have hc : hv_C X cX4_versionsTold 1 RX4 (some FieldType.int) 0 0 0 := hc
  show hv_R X 1 0 0 (hv_QX X 0 0 0) (f_X4_versionsTold mem) mem [] [(0, .ref (hv_ad X 3))] [] 0
  unfold f_X4_versionsTold
  refine hv_aload_n hc dX4_versionsTold_0 rfl (hv_m 0 rfl) ?_
  refine hv_getI hc fl_X4_52 sh_o_3 rfl dX4_versionsTold_1 ?_
  exact hv_iret hc dX4_versionsTold_4
def f_X4_faultFound (mem : hMem) : hRs := hv_ret (mem 3 11) mem
set_option maxRecDepth 100000 in
set_option maxHeartbeats 4000000 in
theorem c_X4_faultFound (mem : hMem) : hv_Met 0 0 0 0 yX4_faultFound cX4_faultFound 1 (some FieldType.int) (fun ad _ _ => [.ref (ad 3)]) mem (f_X4_faultFound mem) := by
  refine hv_start (by decide +kernel) (fun _ _ _ => Nat.le_of_ble_eq_true rfl) ?_
  intro X hc
  have hc : hv_C X cX4_faultFound 1 RX4 (some FieldType.int) 0 0 0 := hc
  show hv_R X 1 0 0 (hv_QX X 0 0 0) (f_X4_faultFound mem) mem [] [(0, .ref (hv_ad X 3))] [] 0
  unfold f_X4_faultFound
  refine hv_aload_n hc dX4_faultFound_0 rfl (hv_m 0 rfl) ?_
  refine hv_getI hc fl_X4_55 sh_o_3 rfl dX4_faultFound_1 ?_
  exact hv_iret hc dX4_faultFound_4
def f_X4_faultPlace (mem : hMem) : hRs := hv_ret (mem 3 12) mem
set_option maxRecDepth 100000 in
set_option maxHeartbeats 4000000 in
theorem c_X4_faultPlace (mem : hMem) : hv_Met 0 0 0 0 yX4_faultPlace cX4_faultPlace 1 (some FieldType.int) (fun ad _ _ => [.ref (ad 3)]) mem (f_X4_faultPlace mem) := by
  refine hv_start (by decide +kernel) (fun _ _ _ => Nat.le_of_ble_eq_true rfl) ?_
  intro X hc
  have hc : hv_C X cX4_faultPlace 1 RX4 (some FieldType.int) 0 0 0 := hc
  show hv_R X 1 0 0 (hv_QX X 0 0 0) (f_X4_faultPlace mem) mem [] [(0, .ref (hv_ad X 3))] [] 0
  unfold f_X4_faultPlace
  refine hv_aload_n hc dX4_faultPlace_0 rfl (hv_m 0 rfl) ?_
  refine hv_getI hc fl_X4_39 sh_o_3 rfl dX4_faultPlace_1 ?_
  exact hv_iret hc dX4_faultPlace_4
def f_X4_howOf (x1 : Int) (mem : hMem) : hRs := hv_b (f_X10_at 5 20 x1 mem) (fun r1 m2 => hv_ret r1 m2)
set_option maxRecDepth 100000 in
set_option maxHeartbeats 4000000 in
theorem c_X4_howOf (x1 : Int) (mem : hMem) : hv_Met 1 0 0 0 yX4_howOf cX4_howOf 2 (some FieldType.int) (fun ad _ _ => [.ref (ad 3), .int (hv_I x1)]) mem (f_X4_howOf x1 mem) := by
  refine hv_start (by decide +kernel) (fun _ _ _ => Nat.le_of_ble_eq_true rfl) ?_
  intro X hc
  have hc : hv_C X cX4_howOf 2 RX4 (some FieldType.int) 1 0 0 := hc
  show hv_R X 2 0 0 (hv_QX X 0 0 0) (f_X4_howOf x1 mem) mem [] [(0, .ref (hv_ad X 3)), (1, .int (hv_I x1))] [] 0
  unfold f_X4_howOf
  refine hv_aload_n hc dX4_howOf_0 rfl (hv_m 0 rfl) ?_
  refine hv_getR hc fl_X4_9 sh_o_3 rfl dX4_howOf_1 ?_
  refine hv_iload_n hc dX4_howOf_4 rfl (hv_m 1 rfl) ?_
  refine hv_callSNi hc (c_X10_at 5 20 sh_a_5 (Nat.le_of_ble_eq_true rfl) x1 mem) ys_X10_at nl_7 rfl rfl rfl (Nat.le_of_ble_eq_true rfl) (Nat.le_of_ble_eq_true rfl) (Nat.zero_le _) (Nat.zero_le _) dX4_howOf_5 (fun r1 m2 => ?_)
  exact hv_iret hc dX4_howOf_8
def f_X4_firstOf (x1 : Int) (mem : hMem) : hRs := hv_b (f_X10_at 6 20 x1 mem) (fun r1 m2 => hv_ret r1 m2)
set_option maxRecDepth 100000 in
set_option maxHeartbeats 4000000 in
theorem c_X4_firstOf (x1 : Int) (mem : hMem) : hv_Met 1 0 0 0 yX4_firstOf cX4_firstOf 2 (some FieldType.int) (fun ad _ _ => [.ref (ad 3), .int (hv_I x1)]) mem (f_X4_firstOf x1 mem) := by
  refine hv_start (by decide +kernel) (fun _ _ _ => Nat.le_of_ble_eq_true rfl) ?_
  intro X hc
  have hc : hv_C X cX4_firstOf 2 RX4 (some FieldType.int) 1 0 0 := hc
  show hv_R X 2 0 0 (hv_QX X 0 0 0) (f_X4_firstOf x1 mem) mem [] [(0, .ref (hv_ad X 3)), (1, .int (hv_I x1))] [] 0
  unfold f_X4_firstOf
  refine hv_aload_n hc dX4_firstOf_0 rfl (hv_m 0 rfl) ?_
  refine hv_getR hc fl_X4_15 sh_o_3 rfl dX4_firstOf_1 ?_
  refine hv_iload_n hc dX4_firstOf_4 rfl (hv_m 1 rfl) ?_
  refine hv_callSNi hc (c_X10_at 6 20 sh_a_6 (Nat.le_of_ble_eq_true rfl) x1 mem) ys_X10_at nl_7 rfl rfl rfl (Nat.le_of_ble_eq_true rfl) (Nat.le_of_ble_eq_true rfl) (Nat.zero_le _) (Nat.zero_le _) dX4_firstOf_5 (fun r1 m2 => ?_)
  exact hv_iret hc dX4_firstOf_8
def f_X4_secondOf (x1 : Int) (mem : hMem) : hRs := hv_b (f_X10_at 7 20 x1 mem) (fun r1 m2 => hv_ret r1 m2)
set_option maxRecDepth 100000 in
set_option maxHeartbeats 4000000 in
theorem c_X4_secondOf (x1 : Int) (mem : hMem) : hv_Met 1 0 0 0 yX4_secondOf cX4_secondOf 2 (some FieldType.int) (fun ad _ _ => [.ref (ad 3), .int (hv_I x1)]) mem (f_X4_secondOf x1 mem) := by
  refine hv_start (by decide +kernel) (fun _ _ _ => Nat.le_of_ble_eq_true rfl) ?_
  intro X hc
  have hc : hv_C X cX4_secondOf 2 RX4 (some FieldType.int) 1 0 0 := hc
  show hv_R X 2 0 0 (hv_QX X 0 0 0) (f_X4_secondOf x1 mem) mem [] [(0, .ref (hv_ad X 3)), (1, .int (hv_I x1))] [] 0
  unfold f_X4_secondOf
  refine hv_aload_n hc dX4_secondOf_0 rfl (hv_m 0 rfl) ?_
  refine hv_getR hc fl_X4_18 sh_o_3 rfl dX4_secondOf_1 ?_
  refine hv_iload_n hc dX4_secondOf_4 rfl (hv_m 1 rfl) ?_
  refine hv_callSNi hc (c_X10_at 7 20 sh_a_7 (Nat.le_of_ble_eq_true rfl) x1 mem) ys_X10_at nl_7 rfl rfl rfl (Nat.le_of_ble_eq_true rfl) (Nat.le_of_ble_eq_true rfl) (Nat.zero_le _) (Nat.zero_le _) dX4_secondOf_5 (fun r1 m2 => ?_)
  exact hv_iret hc dX4_secondOf_8
def f_X4_keyOf (x1 : Int) (mem : hMem) : hRs := hv_b (f_X10_at 8 20 x1 mem) (fun r1 m2 => hv_ret r1 m2)
set_option maxRecDepth 100000 in
set_option maxHeartbeats 4000000 in
theorem c_X4_keyOf (x1 : Int) (mem : hMem) : hv_Met 1 0 0 0 yX4_keyOf cX4_keyOf 2 (some FieldType.int) (fun ad _ _ => [.ref (ad 3), .int (hv_I x1)]) mem (f_X4_keyOf x1 mem) := by
  refine hv_start (by decide +kernel) (fun _ _ _ => Nat.le_of_ble_eq_true rfl) ?_
  intro X hc
  have hc : hv_C X cX4_keyOf 2 RX4 (some FieldType.int) 1 0 0 := hc
  show hv_R X 2 0 0 (hv_QX X 0 0 0) (f_X4_keyOf x1 mem) mem [] [(0, .ref (hv_ad X 3)), (1, .int (hv_I x1))] [] 0
  unfold f_X4_keyOf
  refine hv_aload_n hc dX4_keyOf_0 rfl (hv_m 0 rfl) ?_
  refine hv_getR hc fl_X4_21 sh_o_3 rfl dX4_keyOf_1 ?_
  refine hv_iload_n hc dX4_keyOf_4 rfl (hv_m 1 rfl) ?_
  refine hv_callSNi hc (c_X10_at 8 20 sh_a_8 (Nat.le_of_ble_eq_true rfl) x1 mem) ys_X10_at nl_7 rfl rfl rfl (Nat.le_of_ble_eq_true rfl) (Nat.le_of_ble_eq_true rfl) (Nat.zero_le _) (Nat.zero_le _) dX4_keyOf_5 (fun r1 m2 => ?_)
  exact hv_iret hc dX4_keyOf_8
def f_X4_timeOf (x1 : Int) (mem : hMem) : hRs := hv_b (f_X10_at 9 20 x1 mem) (fun r1 m2 => hv_ret r1 m2)
set_option maxRecDepth 100000 in
set_option maxHeartbeats 4000000 in
theorem c_X4_timeOf (x1 : Int) (mem : hMem) : hv_Met 1 0 0 0 yX4_timeOf cX4_timeOf 2 (some FieldType.int) (fun ad _ _ => [.ref (ad 3), .int (hv_I x1)]) mem (f_X4_timeOf x1 mem) := by
  refine hv_start (by decide +kernel) (fun _ _ _ => Nat.le_of_ble_eq_true rfl) ?_
  intro X hc
  have hc : hv_C X cX4_timeOf 2 RX4 (some FieldType.int) 1 0 0 := hc
  show hv_R X 2 0 0 (hv_QX X 0 0 0) (f_X4_timeOf x1 mem) mem [] [(0, .ref (hv_ad X 3)), (1, .int (hv_I x1))] [] 0
  unfold f_X4_timeOf
  refine hv_aload_n hc dX4_timeOf_0 rfl (hv_m 0 rfl) ?_
  refine hv_getR hc fl_X4_24 sh_o_3 rfl dX4_timeOf_1 ?_
  refine hv_iload_n hc dX4_timeOf_4 rfl (hv_m 1 rfl) ?_
  refine hv_callSNi hc (c_X10_at 9 20 sh_a_9 (Nat.le_of_ble_eq_true rfl) x1 mem) ys_X10_at nl_7 rfl rfl rfl (Nat.le_of_ble_eq_true rfl) (Nat.le_of_ble_eq_true rfl) (Nat.zero_le _) (Nat.zero_le _) dX4_timeOf_5 (fun r1 m2 => ?_)
  exact hv_iret hc dX4_timeOf_8
def f_X7_length (mem : hMem) : hRs := hv_ret (mem 1 1) mem
set_option maxRecDepth 100000 in
set_option maxHeartbeats 4000000 in
theorem c_X7_length (mem : hMem) : hv_Met 0 0 0 0 yX7_length cX7_length 1 (some FieldType.int) (fun ad _ _ => [.ref (ad 1)]) mem (f_X7_length mem) := by
  refine hv_start (by decide +kernel) (fun _ _ _ => Nat.le_of_ble_eq_true rfl) ?_
  intro X hc
  have hc : hv_C X cX7_length 1 RX7 (some FieldType.int) 0 0 0 := hc
  show hv_R X 1 0 0 (hv_QX X 0 0 0) (f_X7_length mem) mem [] [(0, .ref (hv_ad X 1))] [] 0
  unfold f_X7_length
  refine hv_aload_n hc dX7_length_0 rfl (hv_m 0 rfl) ?_
  refine hv_getI hc fl_X7_15 sh_o_1 rfl dX7_length_1 ?_
  exact hv_iret hc dX7_length_4
def f_X7_byteAt (x1 : Int) (mem : hMem) : hRs := hv_lt x1 0 (hv_ret 0 mem) (hv_lt x1 (mem 1 1) (hv_lt x1 600 (hv_ald mem 2 600 x1 (fun v1 => hv_ret v1 mem)) (hv_ret 0 mem)) (hv_ret 0 mem))
set_option maxRecDepth 100000 in
set_option maxHeartbeats 4000000 in
theorem c_X7_byteAt (x1 : Int) (mem : hMem) : hv_Met 0 0 0 0 yX7_byteAt cX7_byteAt 2 (some FieldType.int) (fun ad _ _ => [.ref (ad 1), .int (hv_I x1)]) mem (f_X7_byteAt x1 mem) := by
  refine hv_start (by decide +kernel) (fun _ _ _ => Nat.le_of_ble_eq_true rfl) ?_
  intro X hc
  have hc : hv_C X cX7_byteAt 2 RX7 (some FieldType.int) 0 0 0 := hc
  show hv_R X 2 0 0 (hv_QX X 0 0 0) (f_X7_byteAt x1 mem) mem [] [(0, .ref (hv_ad X 1)), (1, .int (hv_I x1))] [] 0
  unfold f_X7_byteAt
  refine hv_iload_n hc dX7_byteAt_0 rfl (hv_m 1 rfl) ?_
  refine hv_if_lt (tgt := 28) hc dX7_byteAt_1 (by decide) ?_ ?_
  · refine hv_iconst hc dX7_byteAt_28 ?_
    exact hv_iret hc dX7_byteAt_29
  · refine hv_iload_n hc dX7_byteAt_4 rfl (hv_m 1 rfl) ?_
    refine hv_aload_n hc dX7_byteAt_5 rfl (hv_m 0 rfl) ?_
    refine hv_getI hc fl_X7_15 sh_o_1 rfl dX7_byteAt_6 ?_
    refine hv_icmp_ge (tgt := 28) hc dX7_byteAt_9 (by decide) ?_ ?_
    · refine hv_iconst hc dX7_byteAt_28 ?_
      exact hv_iret hc dX7_byteAt_29
    · refine hv_iload_n hc dX7_byteAt_12 rfl (hv_m 1 rfl) ?_
      refine hv_sipush hc dX7_byteAt_13 (by decide) ?_
      refine hv_icmp_ge (tgt := 28) hc dX7_byteAt_16 (by decide) ?_ ?_
      · refine hv_iconst hc dX7_byteAt_28 ?_
        exact hv_iret hc dX7_byteAt_29
      · refine hv_aload_n hc dX7_byteAt_19 rfl (hv_m 0 rfl) ?_
        refine hv_getR hc fl_X7_9 sh_o_1 rfl dX7_byteAt_20 ?_
        refine hv_iload_n hc dX7_byteAt_23 rfl (hv_m 1 rfl) ?_
        refine hv_iaload hc sh_a_2 (Nat.le_of_ble_eq_true rfl) dX7_byteAt_24 (fun v1 => ?_)
        refine hv_goto (tgt := 29) hc dX7_byteAt_25 (by decide) ?_
        exact hv_iret hc dX7_byteAt_29
def f_X8_isBlank (x0 : Int) (mem : hMem) : hRs := hv_eq x0 32 (hv_zr 1 mem) (hv_eq x0 10 (hv_zr 1 mem) (hv_zr 0 mem))
set_option maxRecDepth 100000 in
set_option maxHeartbeats 4000000 in
theorem c_X8_isBlank (x0 : Int) (mem : hMem) : hv_Met 0 0 0 0 yX8_isBlank cX8_isBlank 1 (some FieldType.boolean) (fun _ _ _ => [.int (hv_I x0)]) mem (f_X8_isBlank x0 mem) := by
  refine hv_start (by decide +kernel) (fun _ _ _ => Nat.le_of_ble_eq_true rfl) ?_
  intro X hc
  have hc : hv_C X cX8_isBlank 1 RX8 (some FieldType.boolean) 0 0 0 := hc
  show hv_R X 1 0 0 (hv_QX X 0 0 0) (f_X8_isBlank x0 mem) mem [] [(0, .int (hv_I x0))] [] 0
  unfold f_X8_isBlank
  refine hv_iload_n hc dX8_isBlank_0 rfl (hv_m 0 rfl) ?_
  refine hv_bipush hc dX8_isBlank_1 (by decide) ?_
  refine hv_icmp_eq (tgt := 12) hc dX8_isBlank_3 (by decide) ?_ ?_
  · refine hv_iconst hc dX8_isBlank_12 ?_
    refine hv_goto (tgt := 17) hc dX8_isBlank_13 (by decide) ?_
    exact hv_zret hc dX8_isBlank_17
  · refine hv_iload_n hc dX8_isBlank_6 rfl (hv_m 0 rfl) ?_
    refine hv_bipush hc dX8_isBlank_7 (by decide) ?_
    refine hv_icmp_ne (tgt := 16) hc dX8_isBlank_9 (by decide) ?_ ?_
    · refine hv_iconst hc dX8_isBlank_16 ?_
      exact hv_zret hc dX8_isBlank_17
    · refine hv_iconst hc dX8_isBlank_12 ?_
      refine hv_goto (tgt := 17) hc dX8_isBlank_13 (by decide) ?_
      exact hv_zret hc dX8_isBlank_17
def f_X8_isLetter (x0 : Int) (mem : hMem) : hRs := hv_lt x0 97 (hv_zr 0 mem) (hv_lt 122 x0 (hv_zr 0 mem) (hv_zr 1 mem))
set_option maxRecDepth 100000 in
set_option maxHeartbeats 4000000 in
theorem c_X8_isLetter (x0 : Int) (mem : hMem) : hv_Met 0 0 0 0 yX8_isLetter cX8_isLetter 1 (some FieldType.boolean) (fun _ _ _ => [.int (hv_I x0)]) mem (f_X8_isLetter x0 mem) := by
  refine hv_start (by decide +kernel) (fun _ _ _ => Nat.le_of_ble_eq_true rfl) ?_
  intro X hc
  have hc : hv_C X cX8_isLetter 1 RX8 (some FieldType.boolean) 0 0 0 := hc
  show hv_R X 1 0 0 (hv_QX X 0 0 0) (f_X8_isLetter x0 mem) mem [] [(0, .int (hv_I x0))] [] 0
  unfold f_X8_isLetter
  refine hv_iload_n hc dX8_isLetter_0 rfl (hv_m 0 rfl) ?_
  refine hv_bipush hc dX8_isLetter_1 (by decide) ?_
  refine hv_icmp_lt (tgt := 16) hc dX8_isLetter_3 (by decide) ?_ ?_
  · refine hv_iconst hc dX8_isLetter_16 ?_
    exact hv_zret hc dX8_isLetter_17
  · refine hv_iload_n hc dX8_isLetter_6 rfl (hv_m 0 rfl) ?_
    refine hv_bipush hc dX8_isLetter_7 (by decide) ?_
    refine hv_icmp_gt (tgt := 16) hc dX8_isLetter_9 (by decide) ?_ ?_
    · refine hv_iconst hc dX8_isLetter_16 ?_
      exact hv_zret hc dX8_isLetter_17
    · refine hv_iconst hc dX8_isLetter_12 ?_
      refine hv_goto (tgt := 17) hc dX8_isLetter_13 (by decide) ?_
      exact hv_zret hc dX8_isLetter_17
def B_X8_passLetters_0 (R0 : hMem → hRs) (mem : hMem) : hRs := hv_b (f_X7_length mem) (fun r1 m2 => hv_lt (mem 4 3) r1 (hv_b (f_X7_byteAt (m2 4 3) m2) (fun r3 m4 => hv_b (f_X8_isLetter r3 m4) (fun r5 m6 => hv_eq r5 0 (hv_ret 0 m6) (hv_put m6 4 3 ((m6 4 3) + 1) (fun m7 => R0 m7))))) (hv_ret 0 m2))
def L_X8_passLetters_0 : Nat → hMem → hRs
  | 0 => fun _ => none
  | n + 1 => B_X8_passLetters_0 (L_X8_passLetters_0 n)
set_option maxRecDepth 100000 in
theorem gB_X8_passLetters_0 {X : hv_X} (hc : hv_C X cX8_passLetters 1 RX8 (none) 1 0 0) (R0 : hMem → hRs) (hR0 : ∀ (mem : hMem), hv_R X 1 0 0 (hv_QX X 1 0 0) (R0 mem) mem [] [(0, .ref (hv_ad X 4))] [] 0) (mem : hMem) : hv_R X 1 0 0 (hv_QX X 1 0 0) (B_X8_passLetters_0 R0 mem) mem [] [(0, .ref (hv_ad X 4))] [] 0 := by
  unfold B_X8_passLetters_0
  refine hv_aload_n hc dX8_passLetters_0 rfl (hv_m 0 rfl) ?_
  refine hv_getI hc fl_X8_23 sh_o_4 rfl dX8_passLetters_1 ?_
  refine hv_aload_n hc dX8_passLetters_4 rfl (hv_m 0 rfl) ?_
  refine hv_getR hc fl_X8_7 sh_o_4 rfl dX8_passLetters_5 ?_
  refine hv_callVi hc (c_X7_length mem) yv_X7_length tw_378 sh_o_1 rfl rfl rfl rfl (Nat.le_of_ble_eq_true rfl) (Nat.le_of_ble_eq_true rfl) (Nat.zero_le _) (Nat.zero_le _) dX8_passLetters_8 (fun r1 m2 => ?_)
  refine hv_icmp_ge (tgt := 44) hc dX8_passLetters_11 (by decide) ?_ ?_
  · exact hv_vret hc dX8_passLetters_44
  · refine hv_aload_n hc dX8_passLetters_14 rfl (hv_m 0 rfl) ?_
    refine hv_getR hc fl_X8_7 sh_o_4 rfl dX8_passLetters_15 ?_
    refine hv_aload_n hc dX8_passLetters_18 rfl (hv_m 0 rfl) ?_
    refine hv_getI hc fl_X8_23 sh_o_4 rfl dX8_passLetters_19 ?_
    refine hv_callVi hc (c_X7_byteAt (m2 4 3) m2) yv_X7_byteAt tw_379 sh_o_1 rfl rfl rfl rfl (Nat.le_of_ble_eq_true rfl) (Nat.le_of_ble_eq_true rfl) (Nat.zero_le _) (Nat.zero_le _) dX8_passLetters_22 (fun r3 m4 => ?_)
    refine hv_callSi hc (c_X8_isLetter r3 m4) ys_X8_isLetter tw_386 rfl rfl rfl (Nat.le_of_ble_eq_true rfl) (Nat.le_of_ble_eq_true rfl) (Nat.zero_le _) (Nat.zero_le _) dX8_passLetters_25 (fun r5 m6 => ?_)
    refine hv_if_eq (tgt := 44) hc dX8_passLetters_28 (by decide) ?_ ?_
    · exact hv_vret hc dX8_passLetters_44
    · refine hv_aload_n hc dX8_passLetters_31 rfl (hv_m 0 rfl) ?_
      refine hv_dup hc dX8_passLetters_32 rfl ?_
      refine hv_getI hc fl_X8_23 sh_o_4 rfl dX8_passLetters_33 ?_
      refine hv_iconst hc dX8_passLetters_36 ?_
      refine hv_iadd hc dX8_passLetters_37 ?_
      refine hv_putI hc fp_X8_23 sh_o_4 rfl dX8_passLetters_38 (fun m7 => ?_)
      refine hv_goto (tgt := 0) hc dX8_passLetters_41 (by decide) ?_
      exact hv_pick [0] rfl (hR0 m7)
theorem g_X8_passLetters_0 {X : hv_X} (hc : hv_C X cX8_passLetters 1 RX8 (none) 1 0 0) : ∀ (n : Nat) (mem : hMem), hv_R X 1 0 0 (hv_QX X 1 0 0) (L_X8_passLetters_0 n mem) mem [] [(0, .ref (hv_ad X 4))] [] 0 := by
  intro n
  induction n with
  | zero => intros; exact hv_none
  | succ n ih => exact gB_X8_passLetters_0 hc _ ih
def f_X8_passLetters (mem : hMem) : hRs := L_X8_passLetters_0 hv_FU mem
set_option maxRecDepth 100000 in
set_option maxHeartbeats 4000000 in
theorem c_X8_passLetters (mem : hMem) : hv_Met 1 0 0 1 yX8_passLetters cX8_passLetters 1 (none) (fun ad _ _ => [.ref (ad 4)]) mem (f_X8_passLetters mem) := by
  refine hv_start (by decide +kernel) (fun _ _ _ => Nat.le_of_ble_eq_true rfl) ?_
  intro X hc
  have hc : hv_C X cX8_passLetters 1 RX8 (none) 1 0 0 := hc
  show hv_R X 1 0 0 (hv_QX X 1 0 0) (f_X8_passLetters mem) mem [] [(0, .ref (hv_ad X 4))] [] 0
  unfold f_X8_passLetters
  exact hv_pick [0] rfl (g_X8_passLetters_0 hc hv_FU mem)
def f_X8_isDigit (x0 : Int) (mem : hMem) : hRs := hv_lt x0 48 (hv_zr 0 mem) (hv_lt 57 x0 (hv_zr 0 mem) (hv_zr 1 mem))
set_option maxRecDepth 100000 in
set_option maxHeartbeats 4000000 in
theorem c_X8_isDigit (x0 : Int) (mem : hMem) : hv_Met 0 0 0 0 yX8_isDigit cX8_isDigit 1 (some FieldType.boolean) (fun _ _ _ => [.int (hv_I x0)]) mem (f_X8_isDigit x0 mem) := by
  refine hv_start (by decide +kernel) (fun _ _ _ => Nat.le_of_ble_eq_true rfl) ?_
  intro X hc
  have hc : hv_C X cX8_isDigit 1 RX8 (some FieldType.boolean) 0 0 0 := hc
  show hv_R X 1 0 0 (hv_QX X 0 0 0) (f_X8_isDigit x0 mem) mem [] [(0, .int (hv_I x0))] [] 0
  unfold f_X8_isDigit
  refine hv_iload_n hc dX8_isDigit_0 rfl (hv_m 0 rfl) ?_
  refine hv_bipush hc dX8_isDigit_1 (by decide) ?_
  refine hv_icmp_lt (tgt := 16) hc dX8_isDigit_3 (by decide) ?_ ?_
  · refine hv_iconst hc dX8_isDigit_16 ?_
    exact hv_zret hc dX8_isDigit_17
  · refine hv_iload_n hc dX8_isDigit_6 rfl (hv_m 0 rfl) ?_
    refine hv_bipush hc dX8_isDigit_7 (by decide) ?_
    refine hv_icmp_gt (tgt := 16) hc dX8_isDigit_9 (by decide) ?_ ?_
    · refine hv_iconst hc dX8_isDigit_16 ?_
      exact hv_zret hc dX8_isDigit_17
    · refine hv_iconst hc dX8_isDigit_12 ?_
      refine hv_goto (tgt := 17) hc dX8_isDigit_13 (by decide) ?_
      exact hv_zret hc dX8_isDigit_17
def f_J9_min_7cf53 (x0 x1 : Int) (mem : hMem) : hRs := hv_lt x1 x0 (hv_ret x1 mem) (hv_ret x0 mem)
set_option maxRecDepth 100000 in
set_option maxHeartbeats 4000000 in
theorem c_J9_min_7cf53 (x0 x1 : Int) (mem : hMem) : hv_Met 0 0 0 0 yJ9_min_7cf53 cJ9_min_7cf53 2 (some FieldType.int) (fun _ _ _ => [.int (hv_I x0), .int (hv_I x1)]) mem (f_J9_min_7cf53 x0 x1 mem) := by
  refine hv_start (by decide +kernel) (fun _ _ _ => Nat.le_of_ble_eq_true rfl) ?_
  intro X hc
  have hc : hv_C X cJ9_min_7cf53 2 RJ9 (some FieldType.int) 0 0 0 := hc
  show hv_R X 2 0 0 (hv_QX X 0 0 0) (f_J9_min_7cf53 x0 x1 mem) mem [] [(0, .int (hv_I x0)), (1, .int (hv_I x1))] [] 0
  unfold f_J9_min_7cf53
  refine hv_iload_n hc dJ9_min_7cf53_0 rfl (hv_m 0 rfl) ?_
  refine hv_iload_n hc dJ9_min_7cf53_1 rfl (hv_m 1 rfl) ?_
  refine hv_icmp_gt (tgt := 9) hc dJ9_min_7cf53_2 (by decide) ?_ ?_
  · refine hv_iload_n hc dJ9_min_7cf53_9 rfl (hv_m 1 rfl) ?_
    exact hv_iret hc dJ9_min_7cf53_10
  · refine hv_iload_n hc dJ9_min_7cf53_5 rfl (hv_m 0 rfl) ?_
    refine hv_goto (tgt := 10) hc dJ9_min_7cf53_6 (by decide) ?_
    exact hv_iret hc dJ9_min_7cf53_10
def B_X8_passDigits_18 (R18 : hMem → hRs) (mem : hMem) : hRs := hv_b (f_X7_length mem) (fun r1 m2 => hv_lt (mem 4 3) r1 (hv_b (f_X7_byteAt (m2 4 3) m2) (fun r3 m4 => hv_b (f_X8_isDigit r3 m4) (fun r5 m6 => hv_eq r5 0 (hv_ret 0 m6) (hv_b (f_X7_byteAt (m6 4 3) m6) (fun r7 m8 => hv_b (f_J9_min_7cf53 ((((m6 4 4) * 10) + r7) - 48) 10000 m8) (fun r9 m10 => hv_put m10 4 4 r9 (fun m11 => hv_put m11 4 3 ((m11 4 3) + 1) (fun m12 => R18 m12)))))))) (hv_ret 0 m2))
def L_X8_passDigits_18 : Nat → hMem → hRs
  | 0 => fun _ => none
  | n + 1 => B_X8_passDigits_18 (L_X8_passDigits_18 n)
set_option maxRecDepth 100000 in
theorem gB_X8_passDigits_18 {X : hv_X} (hc : hv_C X cX8_passDigits 1 RX8 (none) 1 0 0) (R18 : hMem → hRs) (hR18 : ∀ (mem : hMem), hv_R X 1 0 0 (hv_QX X 1 0 0) (R18 mem) mem [] [(0, .ref (hv_ad X 4))] [] 18) (mem : hMem) : hv_R X 1 0 0 (hv_QX X 1 0 0) (B_X8_passDigits_18 R18 mem) mem [] [(0, .ref (hv_ad X 4))] [] 18 := by
  unfold B_X8_passDigits_18
  refine hv_aload_n hc dX8_passDigits_18 rfl (hv_m 0 rfl) ?_
  refine hv_getI hc fl_X8_23 sh_o_4 rfl dX8_passDigits_19 ?_
  refine hv_aload_n hc dX8_passDigits_22 rfl (hv_m 0 rfl) ?_
  refine hv_getR hc fl_X8_7 sh_o_4 rfl dX8_passDigits_23 ?_
  refine hv_callVi hc (c_X7_length mem) yv_X7_length tw_378 sh_o_1 rfl rfl rfl rfl (Nat.le_of_ble_eq_true rfl) (Nat.le_of_ble_eq_true rfl) (Nat.zero_le _) (Nat.zero_le _) dX8_passDigits_26 (fun r1 m2 => ?_)
  refine hv_icmp_ge (tgt := 94) hc dX8_passDigits_29 (by decide) ?_ ?_
  · exact hv_vret hc dX8_passDigits_94
  · refine hv_aload_n hc dX8_passDigits_32 rfl (hv_m 0 rfl) ?_
    refine hv_getR hc fl_X8_7 sh_o_4 rfl dX8_passDigits_33 ?_
    refine hv_aload_n hc dX8_passDigits_36 rfl (hv_m 0 rfl) ?_
    refine hv_getI hc fl_X8_23 sh_o_4 rfl dX8_passDigits_37 ?_
    refine hv_callVi hc (c_X7_byteAt (m2 4 3) m2) yv_X7_byteAt tw_379 sh_o_1 rfl rfl rfl rfl (Nat.le_of_ble_eq_true rfl) (Nat.le_of_ble_eq_true rfl) (Nat.zero_le _) (Nat.zero_le _) dX8_passDigits_40 (fun r3 m4 => ?_)
    refine hv_callSi hc (c_X8_isDigit r3 m4) ys_X8_isDigit tw_393 rfl rfl rfl (Nat.le_of_ble_eq_true rfl) (Nat.le_of_ble_eq_true rfl) (Nat.zero_le _) (Nat.zero_le _) dX8_passDigits_43 (fun r5 m6 => ?_)
    refine hv_if_eq (tgt := 94) hc dX8_passDigits_46 (by decide) ?_ ?_
    · exact hv_vret hc dX8_passDigits_94
    · refine hv_aload_n hc dX8_passDigits_49 rfl (hv_m 0 rfl) ?_
      refine hv_aload_n hc dX8_passDigits_50 rfl (hv_m 0 rfl) ?_
      refine hv_getI hc fl_X8_20 sh_o_4 rfl dX8_passDigits_51 ?_
      refine hv_bipush hc dX8_passDigits_54 (by decide) ?_
      refine hv_imul hc dX8_passDigits_56 ?_
      refine hv_aload_n hc dX8_passDigits_57 rfl (hv_m 0 rfl) ?_
      refine hv_getR hc fl_X8_7 sh_o_4 rfl dX8_passDigits_58 ?_
      refine hv_aload_n hc dX8_passDigits_61 rfl (hv_m 0 rfl) ?_
      refine hv_getI hc fl_X8_23 sh_o_4 rfl dX8_passDigits_62 ?_
      refine hv_callVi hc (c_X7_byteAt (m6 4 3) m6) yv_X7_byteAt tw_379 sh_o_1 rfl rfl rfl rfl (Nat.le_of_ble_eq_true rfl) (Nat.le_of_ble_eq_true rfl) (Nat.zero_le _) (Nat.zero_le _) dX8_passDigits_65 (fun r7 m8 => ?_)
      refine hv_iadd hc dX8_passDigits_68 ?_
      refine hv_bipush hc dX8_passDigits_69 (by decide) ?_
      refine hv_isub hc dX8_passDigits_71 ?_
      refine hv_sipush hc dX8_passDigits_72 (by decide) ?_
      refine hv_callSi hc (c_J9_min_7cf53 ((((m6 4 4) * 10) + r7) - 48) 10000 m8) ys_J9_min_7cf53 tw_400 rfl rfl rfl (Nat.le_of_ble_eq_true rfl) (Nat.le_of_ble_eq_true rfl) (Nat.zero_le _) (Nat.zero_le _) dX8_passDigits_75 (fun r9 m10 => ?_)
      refine hv_putI hc fp_X8_20 sh_o_4 rfl dX8_passDigits_78 (fun m11 => ?_)
      refine hv_aload_n hc dX8_passDigits_81 rfl (hv_m 0 rfl) ?_
      refine hv_dup hc dX8_passDigits_82 rfl ?_
      refine hv_getI hc fl_X8_23 sh_o_4 rfl dX8_passDigits_83 ?_
      refine hv_iconst hc dX8_passDigits_86 ?_
      refine hv_iadd hc dX8_passDigits_87 ?_
      refine hv_putI hc fp_X8_23 sh_o_4 rfl dX8_passDigits_88 (fun m12 => ?_)
      refine hv_goto (tgt := 18) hc dX8_passDigits_91 (by decide) ?_
      exact hv_pick [0] rfl (hR18 m12)
theorem g_X8_passDigits_18 {X : hv_X} (hc : hv_C X cX8_passDigits 1 RX8 (none) 1 0 0) : ∀ (n : Nat) (mem : hMem), hv_R X 1 0 0 (hv_QX X 1 0 0) (L_X8_passDigits_18 n mem) mem [] [(0, .ref (hv_ad X 4))] [] 18 := by
  intro n
  induction n with
  | zero => intros; exact hv_none
  | succ n ih => exact gB_X8_passDigits_18 hc _ ih
def f_X8_passDigits (mem : hMem) : hRs := hv_b (f_X7_byteAt (mem 4 2) mem) (fun r1 m2 => hv_put m2 4 4 (r1 - 48) (fun m3 => L_X8_passDigits_18 hv_FU m3))
set_option maxRecDepth 100000 in
set_option maxHeartbeats 4000000 in
theorem c_X8_passDigits (mem : hMem) : hv_Met 1 0 0 1 yX8_passDigits cX8_passDigits 1 (none) (fun ad _ _ => [.ref (ad 4)]) mem (f_X8_passDigits mem) := by
  refine hv_start (by decide +kernel) (fun _ _ _ => Nat.le_of_ble_eq_true rfl) ?_
  intro X hc
  have hc : hv_C X cX8_passDigits 1 RX8 (none) 1 0 0 := hc
  show hv_R X 1 0 0 (hv_QX X 1 0 0) (f_X8_passDigits mem) mem [] [(0, .ref (hv_ad X 4))] [] 0
  unfold f_X8_passDigits
  refine hv_aload_n hc dX8_passDigits_0 rfl (hv_m 0 rfl) ?_
  refine hv_aload_n hc dX8_passDigits_1 rfl (hv_m 0 rfl) ?_
  refine hv_getR hc fl_X8_7 sh_o_4 rfl dX8_passDigits_2 ?_
  refine hv_aload_n hc dX8_passDigits_5 rfl (hv_m 0 rfl) ?_
  refine hv_getI hc fl_X8_17 sh_o_4 rfl dX8_passDigits_6 ?_
  refine hv_callVi hc (c_X7_byteAt (mem 4 2) mem) yv_X7_byteAt tw_379 sh_o_1 rfl rfl rfl rfl (Nat.le_of_ble_eq_true rfl) (Nat.le_of_ble_eq_true rfl) (Nat.zero_le _) (Nat.zero_le _) dX8_passDigits_9 (fun r1 m2 => ?_)
  refine hv_bipush hc dX8_passDigits_12 (by decide) ?_
  refine hv_isub hc dX8_passDigits_14 ?_
  refine hv_putI hc fp_X8_20 sh_o_4 rfl dX8_passDigits_15 (fun m3 => ?_)
  exact hv_pick [0] rfl (g_X8_passDigits_18 hc hv_FU m3)
def J_X8_move_172 (s1 : Int) (mem : hMem) : hRs := hv_put mem 4 1 s1 (fun m1 => hv_ret 0 m1)
set_option maxRecDepth 100000 in
theorem g_X8_move_172 {X : hv_X} (hc : hv_C X cX8_move 1 RX8 (none) 2 0 0) (s1 : Int) (mem : hMem) : hv_R X 1 0 0 (hv_QX X 1 0 0) (J_X8_move_172 s1 mem) mem [] [] [.int (hv_I s1), .ref (hv_ad X 4)] 172 := by
  unfold J_X8_move_172
  refine hv_putI hc fp_X8_13 sh_o_4 rfl dX8_move_172 (fun m1 => ?_)
  exact hv_vret hc dX8_move_175
def J_X8_move_52 (mem : hMem) : hRs := hv_put mem 4 3 ((mem 4 2) + 1) (fun m1 => hv_b (f_X7_length m1) (fun r2 m3 => hv_lt (m1 4 2) r2 (hv_b (f_X7_byteAt (m3 4 2) m3) (fun r4 m5 => hv_b (f_X8_isLetter r4 m5) (fun r6 m7 => hv_eq r6 0 (hv_b (f_X7_byteAt (m7 4 2) m7) (fun r8 m9 => hv_b (f_X8_isDigit r8 m9) (fun r10 m11 => hv_eq r10 0 (hv_b (f_X7_byteAt (m11 4 2) m11) (fun r12 m13 => hv_eq r12 59 (J_X8_move_172 3 m13) (J_X8_move_172 4 m13))) (hv_put m11 4 1 2 (fun m14 => hv_b (f_X8_passDigits m14) (fun r15 m16 => hv_ret 0 m16)))))) (hv_put m7 4 1 1 (fun m17 => hv_b (f_X8_passLetters m17) (fun r18 m19 => hv_ret 0 m19)))))) (hv_put m3 4 1 0 (fun m20 => hv_put m20 4 3 (m20 4 2) (fun m21 => hv_ret 0 m21)))))
set_option maxRecDepth 100000 in
theorem g_X8_move_52 {X : hv_X} (hc : hv_C X cX8_move 1 RX8 (none) 2 0 0) (mem : hMem) : hv_R X 1 0 0 (hv_QX X 1 0 0) (J_X8_move_52 mem) mem [] [(0, .ref (hv_ad X 4))] [] 52 := by
  unfold J_X8_move_52
  refine hv_aload_n hc dX8_move_52 rfl (hv_m 0 rfl) ?_
  refine hv_aload_n hc dX8_move_53 rfl (hv_m 0 rfl) ?_
  refine hv_getI hc fl_X8_17 sh_o_4 rfl dX8_move_54 ?_
  refine hv_iconst hc dX8_move_57 ?_
  refine hv_iadd hc dX8_move_58 ?_
  refine hv_putI hc fp_X8_23 sh_o_4 rfl dX8_move_59 (fun m1 => ?_)
  refine hv_aload_n hc dX8_move_62 rfl (hv_m 0 rfl) ?_
  refine hv_getI hc fl_X8_17 sh_o_4 rfl dX8_move_63 ?_
  refine hv_aload_n hc dX8_move_66 rfl (hv_m 0 rfl) ?_
  refine hv_getR hc fl_X8_7 sh_o_4 rfl dX8_move_67 ?_
  refine hv_callVi hc (c_X7_length m1) yv_X7_length tw_378 sh_o_1 rfl rfl rfl rfl (Nat.le_of_ble_eq_true rfl) (Nat.le_of_ble_eq_true rfl) (Nat.zero_le _) (Nat.zero_le _) dX8_move_70 (fun r2 m3 => ?_)
  refine hv_icmp_lt (tgt := 92) hc dX8_move_73 (by decide) ?_ ?_
  · refine hv_aload_n hc dX8_move_92 rfl (hv_m 0 rfl) ?_
    refine hv_getR hc fl_X8_7 sh_o_4 rfl dX8_move_93 ?_
    refine hv_aload_n hc dX8_move_96 rfl (hv_m 0 rfl) ?_
    refine hv_getI hc fl_X8_17 sh_o_4 rfl dX8_move_97 ?_
    refine hv_callVi hc (c_X7_byteAt (m3 4 2) m3) yv_X7_byteAt tw_379 sh_o_1 rfl rfl rfl rfl (Nat.le_of_ble_eq_true rfl) (Nat.le_of_ble_eq_true rfl) (Nat.zero_le _) (Nat.zero_le _) dX8_move_100 (fun r4 m5 => ?_)
    refine hv_callSi hc (c_X8_isLetter r4 m5) ys_X8_isLetter tw_386 rfl rfl rfl (Nat.le_of_ble_eq_true rfl) (Nat.le_of_ble_eq_true rfl) (Nat.zero_le _) (Nat.zero_le _) dX8_move_103 (fun r6 m7 => ?_)
    refine hv_if_eq (tgt := 121) hc dX8_move_106 (by decide) ?_ ?_
    · refine hv_aload_n hc dX8_move_121 rfl (hv_m 0 rfl) ?_
      refine hv_getR hc fl_X8_7 sh_o_4 rfl dX8_move_122 ?_
      refine hv_aload_n hc dX8_move_125 rfl (hv_m 0 rfl) ?_
      refine hv_getI hc fl_X8_17 sh_o_4 rfl dX8_move_126 ?_
      refine hv_callVi hc (c_X7_byteAt (m7 4 2) m7) yv_X7_byteAt tw_379 sh_o_1 rfl rfl rfl rfl (Nat.le_of_ble_eq_true rfl) (Nat.le_of_ble_eq_true rfl) (Nat.zero_le _) (Nat.zero_le _) dX8_move_129 (fun r8 m9 => ?_)
      refine hv_callSi hc (c_X8_isDigit r8 m9) ys_X8_isDigit tw_393 rfl rfl rfl (Nat.le_of_ble_eq_true rfl) (Nat.le_of_ble_eq_true rfl) (Nat.zero_le _) (Nat.zero_le _) dX8_move_132 (fun r10 m11 => ?_)
      refine hv_if_eq (tgt := 150) hc dX8_move_135 (by decide) ?_ ?_
      · refine hv_aload_n hc dX8_move_150 rfl (hv_m 0 rfl) ?_
        refine hv_aload_n hc dX8_move_151 rfl (hv_m 0 rfl) ?_
        refine hv_getR hc fl_X8_7 sh_o_4 rfl dX8_move_152 ?_
        refine hv_aload_n hc dX8_move_155 rfl (hv_m 0 rfl) ?_
        refine hv_getI hc fl_X8_17 sh_o_4 rfl dX8_move_156 ?_
        refine hv_callVi hc (c_X7_byteAt (m11 4 2) m11) yv_X7_byteAt tw_379 sh_o_1 rfl rfl rfl rfl (Nat.le_of_ble_eq_true rfl) (Nat.le_of_ble_eq_true rfl) (Nat.zero_le _) (Nat.zero_le _) dX8_move_159 (fun r12 m13 => ?_)
        refine hv_bipush hc dX8_move_162 (by decide) ?_
        refine hv_icmp_ne (tgt := 171) hc dX8_move_164 (by decide) ?_ ?_
        · refine hv_iconst hc dX8_move_171 ?_
          exact hv_pick [] rfl (g_X8_move_172 hc 4 m13)
        · refine hv_iconst hc dX8_move_167 ?_
          refine hv_goto (tgt := 172) hc dX8_move_168 (by decide) ?_
          exact hv_pick [] rfl (g_X8_move_172 hc 3 m13)
      · refine hv_aload_n hc dX8_move_138 rfl (hv_m 0 rfl) ?_
        refine hv_iconst hc dX8_move_139 ?_
        refine hv_putI hc fp_X8_13 sh_o_4 rfl dX8_move_140 (fun m14 => ?_)
        refine hv_aload_n hc dX8_move_143 rfl (hv_m 0 rfl) ?_
        refine hv_callVv hc (c_X8_passDigits m14) yv_X8_passDigits tw_396 sh_o_4 rfl rfl rfl rfl (Nat.le_of_ble_eq_true rfl) (Nat.le_of_ble_eq_true rfl) (Nat.zero_le _) (Nat.zero_le _) dX8_move_144 (fun r15 m16 => ?_)
        refine hv_goto (tgt := 175) hc dX8_move_147 (by decide) ?_
        exact hv_vret hc dX8_move_175
    · refine hv_aload_n hc dX8_move_109 rfl (hv_m 0 rfl) ?_
      refine hv_iconst hc dX8_move_110 ?_
      refine hv_putI hc fp_X8_13 sh_o_4 rfl dX8_move_111 (fun m17 => ?_)
      refine hv_aload_n hc dX8_move_114 rfl (hv_m 0 rfl) ?_
      refine hv_callVv hc (c_X8_passLetters m17) yv_X8_passLetters tw_389 sh_o_4 rfl rfl rfl rfl (Nat.le_of_ble_eq_true rfl) (Nat.le_of_ble_eq_true rfl) (Nat.zero_le _) (Nat.zero_le _) dX8_move_115 (fun r18 m19 => ?_)
      refine hv_goto (tgt := 175) hc dX8_move_118 (by decide) ?_
      exact hv_vret hc dX8_move_175
  · refine hv_aload_n hc dX8_move_76 rfl (hv_m 0 rfl) ?_
    refine hv_iconst hc dX8_move_77 ?_
    refine hv_putI hc fp_X8_13 sh_o_4 rfl dX8_move_78 (fun m20 => ?_)
    refine hv_aload_n hc dX8_move_81 rfl (hv_m 0 rfl) ?_
    refine hv_aload_n hc dX8_move_82 rfl (hv_m 0 rfl) ?_
    refine hv_getI hc fl_X8_17 sh_o_4 rfl dX8_move_83 ?_
    refine hv_putI hc fp_X8_23 sh_o_4 rfl dX8_move_86 (fun m21 => ?_)
    refine hv_goto (tgt := 175) hc dX8_move_89 (by decide) ?_
    exact hv_vret hc dX8_move_175
def B_X8_move_8 (R8 : hMem → hRs) (mem : hMem) : hRs := hv_b (f_X7_length mem) (fun r1 m2 => hv_lt (mem 4 2) r1 (hv_b (f_X7_byteAt (m2 4 2) m2) (fun r3 m4 => hv_b (f_X8_isBlank r3 m4) (fun r5 m6 => hv_eq r5 0 (J_X8_move_52 m6) (hv_put m6 4 2 ((m6 4 2) + 1) (fun m7 => R8 m7))))) (J_X8_move_52 m2))
def L_X8_move_8 : Nat → hMem → hRs
  | 0 => fun _ => none
  | n + 1 => B_X8_move_8 (L_X8_move_8 n)
set_option maxRecDepth 100000 in
theorem gB_X8_move_8 {X : hv_X} (hc : hv_C X cX8_move 1 RX8 (none) 2 0 0) (R8 : hMem → hRs) (hR8 : ∀ (mem : hMem), hv_R X 1 0 0 (hv_QX X 1 0 0) (R8 mem) mem [] [(0, .ref (hv_ad X 4))] [] 8) (mem : hMem) : hv_R X 1 0 0 (hv_QX X 1 0 0) (B_X8_move_8 R8 mem) mem [] [(0, .ref (hv_ad X 4))] [] 8 := by
  unfold B_X8_move_8
  refine hv_aload_n hc dX8_move_8 rfl (hv_m 0 rfl) ?_
  refine hv_getI hc fl_X8_17 sh_o_4 rfl dX8_move_9 ?_
  refine hv_aload_n hc dX8_move_12 rfl (hv_m 0 rfl) ?_
  refine hv_getR hc fl_X8_7 sh_o_4 rfl dX8_move_13 ?_
  refine hv_callVi hc (c_X7_length mem) yv_X7_length tw_378 sh_o_1 rfl rfl rfl rfl (Nat.le_of_ble_eq_true rfl) (Nat.le_of_ble_eq_true rfl) (Nat.zero_le _) (Nat.zero_le _) dX8_move_16 (fun r1 m2 => ?_)
  refine hv_icmp_ge (tgt := 52) hc dX8_move_19 (by decide) ?_ ?_
  · exact hv_pick [0] rfl (g_X8_move_52 hc m2)
  · refine hv_aload_n hc dX8_move_22 rfl (hv_m 0 rfl) ?_
    refine hv_getR hc fl_X8_7 sh_o_4 rfl dX8_move_23 ?_
    refine hv_aload_n hc dX8_move_26 rfl (hv_m 0 rfl) ?_
    refine hv_getI hc fl_X8_17 sh_o_4 rfl dX8_move_27 ?_
    refine hv_callVi hc (c_X7_byteAt (m2 4 2) m2) yv_X7_byteAt tw_379 sh_o_1 rfl rfl rfl rfl (Nat.le_of_ble_eq_true rfl) (Nat.le_of_ble_eq_true rfl) (Nat.zero_le _) (Nat.zero_le _) dX8_move_30 (fun r3 m4 => ?_)
    refine hv_callSi hc (c_X8_isBlank r3 m4) ys_X8_isBlank tw_383 rfl rfl rfl (Nat.le_of_ble_eq_true rfl) (Nat.le_of_ble_eq_true rfl) (Nat.zero_le _) (Nat.zero_le _) dX8_move_33 (fun r5 m6 => ?_)
    refine hv_if_eq (tgt := 52) hc dX8_move_36 (by decide) ?_ ?_
    · exact hv_pick [0] rfl (g_X8_move_52 hc m6)
    · refine hv_aload_n hc dX8_move_39 rfl (hv_m 0 rfl) ?_
      refine hv_dup hc dX8_move_40 rfl ?_
      refine hv_getI hc fl_X8_17 sh_o_4 rfl dX8_move_41 ?_
      refine hv_iconst hc dX8_move_44 ?_
      refine hv_iadd hc dX8_move_45 ?_
      refine hv_putI hc fp_X8_17 sh_o_4 rfl dX8_move_46 (fun m7 => ?_)
      refine hv_goto (tgt := 8) hc dX8_move_49 (by decide) ?_
      exact hv_pick [0] rfl (hR8 m7)
theorem g_X8_move_8 {X : hv_X} (hc : hv_C X cX8_move 1 RX8 (none) 2 0 0) : ∀ (n : Nat) (mem : hMem), hv_R X 1 0 0 (hv_QX X 1 0 0) (L_X8_move_8 n mem) mem [] [(0, .ref (hv_ad X 4))] [] 8 := by
  intro n
  induction n with
  | zero => intros; exact hv_none
  | succ n ih => exact gB_X8_move_8 hc _ ih
def f_X8_move (mem : hMem) : hRs := hv_put mem 4 2 (mem 4 3) (fun m1 => L_X8_move_8 hv_FU m1)
set_option maxRecDepth 100000 in
set_option maxHeartbeats 4000000 in
theorem c_X8_move (mem : hMem) : hv_Met 2 0 0 1 yX8_move cX8_move 1 (none) (fun ad _ _ => [.ref (ad 4)]) mem (f_X8_move mem) := by
  refine hv_start (by decide +kernel) (fun _ _ _ => Nat.le_of_ble_eq_true rfl) ?_
  intro X hc
  have hc : hv_C X cX8_move 1 RX8 (none) 2 0 0 := hc
  show hv_R X 1 0 0 (hv_QX X 1 0 0) (f_X8_move mem) mem [] [(0, .ref (hv_ad X 4))] [] 0
  unfold f_X8_move
  refine hv_aload_n hc dX8_move_0 rfl (hv_m 0 rfl) ?_
  refine hv_aload_n hc dX8_move_1 rfl (hv_m 0 rfl) ?_
  refine hv_getI hc fl_X8_23 sh_o_4 rfl dX8_move_2 ?_
  refine hv_putI hc fp_X8_17 sh_o_4 rfl dX8_move_5 (fun m1 => ?_)
  exact hv_pick [0] rfl (g_X8_move_8 hc hv_FU m1)
