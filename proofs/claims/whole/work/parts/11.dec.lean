def f_X10_at (k0 n0 : Nat) (x1 : Int) (mem : hMem) : hRs := hv_lt x1 0 (hv_ret 0 mem) (hv_lt x1 ((n0 : Int)) (hv_ald mem k0 n0 x1 (fun v1 => hv_ret v1 mem)) (hv_ret 0 mem))
set_option maxRecDepth 100000 in
set_option maxHeartbeats 4000000 in
theorem c_X10_at (k0 n0 : Nat) (hk0 : hv_SH k0 = some (.inl n0)) (hn0 : n0 ≤ 2147483647) (x1 : Int) (mem : hMem) : hv_Met 0 0 0 0 yX10_at cX10_at 2 (some FieldType.int) (fun ad _ _ => [.ref (ad k0), .int (hv_I x1)]) mem (f_X10_at k0 n0 x1 mem) := by
  refine hv_start (by decide +kernel) (fun _ _ _ => Nat.le_of_ble_eq_true rfl) ?_
  intro X hc
  have hc : hv_C X cX10_at 2 RX10 (some FieldType.int) 0 0 0 := hc
  show hv_R X 2 0 0 (hv_QX X 0 0 0) (f_X10_at k0 n0 x1 mem) mem [] [(0, .ref (hv_ad X k0)), (1, .int (hv_I x1))] [] 0
  unfold f_X10_at
  refine hv_iload_n hc dX10_at_0 rfl (hv_m 1 rfl) ?_
  refine hv_if_lt (tgt := 16) hc dX10_at_1 (by decide) ?_ ?_
  · refine hv_iconst hc dX10_at_16 ?_
    exact hv_iret hc dX10_at_17
  · refine hv_iload_n hc dX10_at_4 rfl (hv_m 1 rfl) ?_
    refine hv_aload_n hc dX10_at_5 rfl (hv_m 0 rfl) ?_
    refine hv_alen hc hk0 dX10_at_6 ?_
    refine hv_icmp_ge (tgt := 16) hc dX10_at_7 (by decide) ?_ ?_
    · refine hv_iconst hc dX10_at_16 ?_
      exact hv_iret hc dX10_at_17
    · refine hv_aload_n hc dX10_at_10 rfl (hv_m 0 rfl) ?_
      refine hv_iload_n hc dX10_at_11 rfl (hv_m 1 rfl) ?_
      refine hv_iaload hc hk0 hn0 dX10_at_12 (fun v1 => ?_)
      refine hv_goto (tgt := 17) hc dX10_at_13 (by decide) ?_
      exact hv_iret hc dX10_at_17
def f_X0_sizeOf (b : Nat) (x1 : Int) (mem : hMem) : hRs := hv_b (f_X10_at (b + 2) 30 x1 mem) (fun r1 m2 => hv_ret r1 m2)
set_option maxRecDepth 100000 in
set_option maxHeartbeats 4000000 in
theorem c_X0_sizeOf (b : Nat) (hb : b = 20 ∨ b = 23) (x1 : Int) (mem : hMem) : hv_Met 1 0 0 0 yX0_sizeOf cX0_sizeOf 2 (some FieldType.int) (fun ad _ _ => [.ref (ad b), .int (hv_I x1)]) mem (f_X0_sizeOf b x1 mem) := by
  refine hv_start (by decide +kernel) (fun _ _ _ => Nat.le_of_ble_eq_true rfl) ?_
  intro X hc
  have hc : hv_C X cX0_sizeOf 2 RX0 (some FieldType.int) 1 0 0 := hc
  show hv_R X 2 0 0 (hv_QX X 0 0 0) (f_X0_sizeOf b x1 mem) mem [] [(0, .ref (hv_ad X b)), (1, .int (hv_I x1))] [] 0
  unfold f_X0_sizeOf
  refine hv_aload_n hc dX0_sizeOf_0 rfl (hv_m 0 rfl) ?_
  refine hv_getR hc fl_X0_15 (sh_X0 hb) rfl dX0_sizeOf_1 ?_
  refine hv_iload_n hc dX0_sizeOf_4 rfl (hv_m 1 rfl) ?_
  refine hv_callSNi hc (c_X10_at (b + 2) 30 (sh_X0_2 hb) (Nat.le_of_ble_eq_true rfl) x1 mem) ys_X10_at nl_12 rfl rfl rfl (Nat.le_of_ble_eq_true rfl) (Nat.le_of_ble_eq_true rfl) (Nat.zero_le _) (Nat.zero_le _) dX0_sizeOf_5 (fun r1 m2 => ?_)
  exact hv_iret hc dX0_sizeOf_8
def f_X0_turnAt (b : Nat) (x1 x2 : Int) (mem : hMem) : hRs := hv_b (f_X10_at (b + 1) 720 ((x1 * 24) + x2) mem) (fun r1 m2 => hv_ret r1 m2)
set_option maxRecDepth 100000 in
set_option maxHeartbeats 4000000 in
theorem c_X0_turnAt (b : Nat) (hb : b = 20 ∨ b = 23) (x1 x2 : Int) (mem : hMem) : hv_Met 1 0 0 0 yX0_turnAt cX0_turnAt 3 (some FieldType.int) (fun ad _ _ => [.ref (ad b), .int (hv_I x1), .int (hv_I x2)]) mem (f_X0_turnAt b x1 x2 mem) := by
  refine hv_start (by decide +kernel) (fun _ _ _ => Nat.le_of_ble_eq_true rfl) ?_
  intro X hc
  have hc : hv_C X cX0_turnAt 3 RX0 (some FieldType.int) 1 0 0 := hc
  show hv_R X 3 0 0 (hv_QX X 0 0 0) (f_X0_turnAt b x1 x2 mem) mem [] [(0, .ref (hv_ad X b)), (1, .int (hv_I x1)), (2, .int (hv_I x2))] [] 0
  unfold f_X0_turnAt
  refine hv_aload_n hc dX0_turnAt_0 rfl (hv_m 0 rfl) ?_
  refine hv_getR hc fl_X0_9 (sh_X0 hb) rfl dX0_turnAt_1 ?_
  refine hv_iload_n hc dX0_turnAt_4 rfl (hv_m 1 rfl) ?_
  refine hv_bipush hc dX0_turnAt_5 (by decide) ?_
  refine hv_imul hc dX0_turnAt_7 ?_
  refine hv_iload_n hc dX0_turnAt_8 rfl (hv_m 2 rfl) ?_
  refine hv_iadd hc dX0_turnAt_9 ?_
  refine hv_callSNi hc (c_X10_at (b + 1) 720 (sh_X0_1 hb) (Nat.le_of_ble_eq_true rfl) ((x1 * 24) + x2) mem) ys_X10_at nl_12 rfl rfl rfl (Nat.le_of_ble_eq_true rfl) (Nat.le_of_ble_eq_true rfl) (Nat.zero_le _) (Nat.zero_le _) dX0_turnAt_10 (fun r1 m2 => ?_)
  exact hv_iret hc dX0_turnAt_13
def f_X3_jobOfTurn (x0 : Int) (mem : hMem) : hRs := hv_ret (hv_rem x0 30) mem
set_option maxRecDepth 100000 in
set_option maxHeartbeats 4000000 in
theorem c_X3_jobOfTurn (x0 : Int) (mem : hMem) : hv_Met 0 0 0 0 yX3_jobOfTurn cX3_jobOfTurn 1 (some FieldType.int) (fun _ _ _ => [.int (hv_I x0)]) mem (f_X3_jobOfTurn x0 mem) := by
  refine hv_start (by decide +kernel) (fun _ _ _ => Nat.le_of_ble_eq_true rfl) ?_
  intro X hc
  have hc : hv_C X cX3_jobOfTurn 1 RX3 (some FieldType.int) 0 0 0 := hc
  show hv_R X 1 0 0 (hv_QX X 0 0 0) (f_X3_jobOfTurn x0 mem) mem [] [(0, .int (hv_I x0))] [] 0
  unfold f_X3_jobOfTurn
  refine hv_iload_n hc dX3_jobOfTurn_0 rfl (hv_m 0 rfl) ?_
  refine hv_bipush hc dX3_jobOfTurn_1 (by decide) ?_
  refine hv_irem hc dX3_jobOfTurn_3 (by decide) ?_
  exact hv_iret hc dX3_jobOfTurn_4
def f_X0_jobAt (b : Nat) (x1 x2 : Int) (mem : hMem) : hRs := hv_lt x2 0 (hv_ret ((-1)) mem) (hv_b (f_X0_sizeOf b x1 mem) (fun r1 m2 => hv_lt x2 r1 (hv_b (f_X0_turnAt b x1 x2 m2) (fun r3 m4 => hv_b (f_X3_jobOfTurn r3 m4) (fun r5 m6 => hv_ret r5 m6))) (hv_ret ((-1)) m2)))
set_option maxRecDepth 100000 in
set_option maxHeartbeats 4000000 in
theorem c_X0_jobAt (b : Nat) (hb : b = 20 ∨ b = 23) (x1 x2 : Int) (mem : hMem) : hv_Met 2 0 0 0 yX0_jobAt cX0_jobAt 3 (some FieldType.int) (fun ad _ _ => [.ref (ad b), .int (hv_I x1), .int (hv_I x2)]) mem (f_X0_jobAt b x1 x2 mem) := by
  refine hv_start (by decide +kernel) (fun _ _ _ => Nat.le_of_ble_eq_true rfl) ?_
  intro X hc
  have hc : hv_C X cX0_jobAt 3 RX0 (some FieldType.int) 2 0 0 := hc
  show hv_R X 3 0 0 (hv_QX X 0 0 0) (f_X0_jobAt b x1 x2 mem) mem [] [(0, .ref (hv_ad X b)), (1, .int (hv_I x1)), (2, .int (hv_I x2))] [] 0
  unfold f_X0_jobAt
  refine hv_iload_n hc dX0_jobAt_0 rfl (hv_m 2 rfl) ?_
  refine hv_if_lt (tgt := 25) hc dX0_jobAt_1 (by decide) ?_ ?_
  · refine hv_iconst hc dX0_jobAt_25 ?_
    exact hv_iret hc dX0_jobAt_26
  · refine hv_iload_n hc dX0_jobAt_4 rfl (hv_m 2 rfl) ?_
    refine hv_aload_n hc dX0_jobAt_5 rfl (hv_m 0 rfl) ?_
    refine hv_iload_n hc dX0_jobAt_6 rfl (hv_m 1 rfl) ?_
    refine hv_callVi hc (c_X0_sizeOf b hb x1 mem) yv_X0_sizeOf tw_615 (sh_X0 hb) rfl rfl rfl rfl (Nat.le_of_ble_eq_true rfl) (Nat.le_of_ble_eq_true rfl) (Nat.zero_le _) (Nat.zero_le _) dX0_jobAt_7 (fun r1 m2 => ?_)
    refine hv_icmp_ge (tgt := 25) hc dX0_jobAt_10 (by decide) ?_ ?_
    · refine hv_iconst hc dX0_jobAt_25 ?_
      exact hv_iret hc dX0_jobAt_26
    · refine hv_aload_n hc dX0_jobAt_13 rfl (hv_m 0 rfl) ?_
      refine hv_iload_n hc dX0_jobAt_14 rfl (hv_m 1 rfl) ?_
      refine hv_iload_n hc dX0_jobAt_15 rfl (hv_m 2 rfl) ?_
      refine hv_callVi hc (c_X0_turnAt b hb x1 x2 m2) yv_X0_turnAt tw_620 (sh_X0 hb) rfl rfl rfl rfl (Nat.le_of_ble_eq_true rfl) (Nat.le_of_ble_eq_true rfl) (Nat.zero_le _) (Nat.zero_le _) dX0_jobAt_16 (fun r3 m4 => ?_)
      refine hv_callSi hc (c_X3_jobOfTurn r3 m4) ys_X3_jobOfTurn tw_624 rfl rfl rfl (Nat.le_of_ble_eq_true rfl) (Nat.le_of_ble_eq_true rfl) (Nat.zero_le _) (Nat.zero_le _) dX0_jobAt_19 (fun r5 m6 => ?_)
      refine hv_goto (tgt := 26) hc dX0_jobAt_22 (by decide) ?_
      exact hv_iret hc dX0_jobAt_26
def B_X0_timesOf_5 (b : Nat) (R5 : Int → Int → Int → Int → hMem → hRs) (x1 x2 x3 x4 : Int) (mem : hMem) : hRs := hv_b (f_X0_sizeOf b x1 mem) (fun r1 m2 => hv_lt x4 r1 (hv_b (f_X0_turnAt b x1 x4 m2) (fun r3 m4 => hv_eq r3 x2 (hv_set (x3 + 1) (fun y6 => hv_set (x4 + 1) (fun y7 => R5 x1 x2 y6 y7 m4))) (hv_set (x4 + 1) (fun y5 => R5 x1 x2 x3 y5 m4)))) (hv_ret x3 m2))
def L_X0_timesOf_5 (b : Nat) : Nat → Int → Int → Int → Int → hMem → hRs
  | 0 => fun _ _ _ _ _ => none
  | n + 1 => B_X0_timesOf_5 b (L_X0_timesOf_5 b n)
set_option maxRecDepth 100000 in
theorem gB_X0_timesOf_5 {X : hv_X} (hc : hv_C X cX0_timesOf 5 RX0 (some FieldType.int) 2 0 0) (b : Nat) (hb : b = 20 ∨ b = 23) (R5 : Int → Int → Int → Int → hMem → hRs) (hR5 : ∀ (x1 x2 x3 x4 : Int) (mem : hMem), hv_R X 5 0 0 (hv_QX X 0 0 0) (R5 x1 x2 x3 x4 mem) mem [] [(0, .ref (hv_ad X b)), (1, .int (hv_I x1)), (2, .int (hv_I x2)), (3, .int (hv_I x3)), (4, .int (hv_I x4))] [] 5) (x1 x2 x3 x4 : Int) (mem : hMem) : hv_R X 5 0 0 (hv_QX X 0 0 0) (B_X0_timesOf_5 b R5 x1 x2 x3 x4 mem) mem [] [(0, .ref (hv_ad X b)), (1, .int (hv_I x1)), (2, .int (hv_I x2)), (3, .int (hv_I x3)), (4, .int (hv_I x4))] [] 5 := by
  unfold B_X0_timesOf_5
  refine hv_iload hc dX0_timesOf_5 (hv_m 4 rfl) ?_
  refine hv_aload_n hc dX0_timesOf_7 rfl (hv_m 0 rfl) ?_
  refine hv_iload_n hc dX0_timesOf_8 rfl (hv_m 1 rfl) ?_
  refine hv_callVi hc (c_X0_sizeOf b hb x1 mem) yv_X0_sizeOf tw_615 (sh_X0 hb) rfl rfl rfl rfl (Nat.le_of_ble_eq_true rfl) (Nat.le_of_ble_eq_true rfl) (Nat.zero_le _) (Nat.zero_le _) dX0_timesOf_9 (fun r1 m2 => ?_)
  refine hv_icmp_ge (tgt := 35) hc dX0_timesOf_12 (by decide) ?_ ?_
  · refine hv_iload_n hc dX0_timesOf_35 rfl (hv_m 3 rfl) ?_
    exact hv_iret hc dX0_timesOf_36
  · refine hv_aload_n hc dX0_timesOf_15 rfl (hv_m 0 rfl) ?_
    refine hv_iload_n hc dX0_timesOf_16 rfl (hv_m 1 rfl) ?_
    refine hv_iload hc dX0_timesOf_17 (hv_m 4 rfl) ?_
    refine hv_callVi hc (c_X0_turnAt b hb x1 x4 m2) yv_X0_turnAt tw_620 (sh_X0 hb) rfl rfl rfl rfl (Nat.le_of_ble_eq_true rfl) (Nat.le_of_ble_eq_true rfl) (Nat.zero_le _) (Nat.zero_le _) dX0_timesOf_19 (fun r3 m4 => ?_)
    refine hv_iload_n hc dX0_timesOf_22 rfl (hv_m 2 rfl) ?_
    refine hv_icmp_ne (tgt := 29) hc dX0_timesOf_23 (by decide) ?_ ?_
    · refine hv_iinc_s (lvf := fun y5 => [(4, .int (hv_I y5)), (0, .ref (hv_ad X b)), (1, .int (hv_I x1)), (2, .int (hv_I x2)), (3, .int (hv_I x3))]) hc dX0_timesOf_29 (by decide) (hv_m 4 rfl) (fun _ => rfl) (fun y5 => ?_)
      refine hv_goto (tgt := 5) hc dX0_timesOf_32 (by decide) ?_
      exact hv_pick [1, 2, 3, 4, 0] rfl (hR5 x1 x2 x3 y5 m4)
    · refine hv_iinc_s (lvf := fun y6 => [(3, .int (hv_I y6)), (0, .ref (hv_ad X b)), (1, .int (hv_I x1)), (2, .int (hv_I x2)), (4, .int (hv_I x4))]) hc dX0_timesOf_26 (by decide) (hv_m 3 rfl) (fun _ => rfl) (fun y6 => ?_)
      refine hv_iinc_s (lvf := fun y7 => [(4, .int (hv_I y7)), (3, .int (hv_I y6)), (0, .ref (hv_ad X b)), (1, .int (hv_I x1)), (2, .int (hv_I x2))]) hc dX0_timesOf_29 (by decide) (hv_m 4 rfl) (fun _ => rfl) (fun y7 => ?_)
      refine hv_goto (tgt := 5) hc dX0_timesOf_32 (by decide) ?_
      exact hv_pick [2, 3, 4, 1, 0] rfl (hR5 x1 x2 y6 y7 m4)
theorem g_X0_timesOf_5 {X : hv_X} (hc : hv_C X cX0_timesOf 5 RX0 (some FieldType.int) 2 0 0) (b : Nat) (hb : b = 20 ∨ b = 23) : ∀ (n : Nat) (x1 x2 x3 x4 : Int) (mem : hMem), hv_R X 5 0 0 (hv_QX X 0 0 0) (L_X0_timesOf_5 b n x1 x2 x3 x4 mem) mem [] [(0, .ref (hv_ad X b)), (1, .int (hv_I x1)), (2, .int (hv_I x2)), (3, .int (hv_I x3)), (4, .int (hv_I x4))] [] 5 := by
  intro n
  induction n with
  | zero => intros; exact hv_none
  | succ n ih => exact gB_X0_timesOf_5 hc b hb _ ih
def f_X0_timesOf (b : Nat) (x1 x2 : Int) (mem : hMem) : hRs := L_X0_timesOf_5 b hv_FU x1 x2 0 0 mem
set_option maxRecDepth 100000 in
set_option maxHeartbeats 4000000 in
theorem c_X0_timesOf (b : Nat) (hb : b = 20 ∨ b = 23) (x1 x2 : Int) (mem : hMem) : hv_Met 2 0 0 0 yX0_timesOf cX0_timesOf 5 (some FieldType.int) (fun ad _ _ => [.ref (ad b), .int (hv_I x1), .int (hv_I x2)]) mem (f_X0_timesOf b x1 x2 mem) := by
  refine hv_start (by decide +kernel) (fun _ _ _ => Nat.le_of_ble_eq_true rfl) ?_
  intro X hc
  have hc : hv_C X cX0_timesOf 5 RX0 (some FieldType.int) 2 0 0 := hc
  show hv_R X 5 0 0 (hv_QX X 0 0 0) (f_X0_timesOf b x1 x2 mem) mem [] [(0, .ref (hv_ad X b)), (1, .int (hv_I x1)), (2, .int (hv_I x2))] [] 0
  unfold f_X0_timesOf
  refine hv_iconst hc dX0_timesOf_0 ?_
  refine hv_istore_n (lv' := [(3, .int (hv_I 0)), (0, .ref (hv_ad X b)), (1, .int (hv_I x1)), (2, .int (hv_I x2))]) hc dX0_timesOf_1 rfl (by decide) rfl ?_
  refine hv_iconst hc dX0_timesOf_2 ?_
  refine hv_istore (lv' := [(4, .int (hv_I 0)), (3, .int (hv_I 0)), (0, .ref (hv_ad X b)), (1, .int (hv_I x1)), (2, .int (hv_I x2))]) hc dX0_timesOf_3 (by decide) rfl ?_
  exact hv_pick [2, 3, 4, 1, 0] rfl (g_X0_timesOf_5 hc b hb hv_FU x1 x2 0 0 mem)
def J_X0_excess_55 (b : Nat) (R8 : Int → Int → Int → Int → Int → hMem → hRs) (x1 x2 x3 x4 x5 x6 : Int) (mem : hMem) : hRs := hv_b (f_X0_sizeOf b x2 mem) (fun r1 m2 => hv_lt x4 r1 (hv_b (f_X0_turnAt b x2 x4 m2) (fun r5 m6 => hv_eq r5 x6 (hv_set (x4 + 1) (fun y9 => hv_set (x5 + 1) (fun y10 => R8 x1 x2 x3 y9 y10 m6))) (hv_set (x3 + 1) (fun y7 => hv_set (x5 + 1) (fun y8 => R8 x1 x2 y7 x4 y8 m6))))) (hv_set (x3 + 1) (fun y3 => hv_set (x5 + 1) (fun y4 => R8 x1 x2 y3 x4 y4 m2))))
set_option maxRecDepth 100000 in
theorem g_X0_excess_55 {X : hv_X} (hc : hv_C X cX0_excess 7 RX0 (some FieldType.int) 2 0 0) (b : Nat) (hb : b = 20 ∨ b = 23) (R8 : Int → Int → Int → Int → Int → hMem → hRs) (hR8 : ∀ (x1 x2 x3 x4 x5 : Int) (mem : hMem), hv_R X 7 0 0 (hv_QX X 0 0 0) (R8 x1 x2 x3 x4 x5 mem) mem [] [(0, .ref (hv_ad X b)), (1, .int (hv_I x1)), (2, .int (hv_I x2)), (3, .int (hv_I x3)), (4, .int (hv_I x4)), (5, .int (hv_I x5))] [] 8) (x1 x2 x3 x4 x5 x6 : Int) (mem : hMem) : hv_R X 7 0 0 (hv_QX X 0 0 0) (J_X0_excess_55 b R8 x1 x2 x3 x4 x5 x6 mem) mem [] [(0, .ref (hv_ad X b)), (1, .int (hv_I x1)), (2, .int (hv_I x2)), (3, .int (hv_I x3)), (4, .int (hv_I x4)), (5, .int (hv_I x5)), (6, .int (hv_I x6))] [] 55 := by
  unfold J_X0_excess_55
  refine hv_iload hc dX0_excess_55 (hv_m 4 rfl) ?_
  refine hv_aload_n hc dX0_excess_57 rfl (hv_m 0 rfl) ?_
  refine hv_iload_n hc dX0_excess_58 rfl (hv_m 2 rfl) ?_
  refine hv_callVi hc (c_X0_sizeOf b hb x2 mem) yv_X0_sizeOf tw_615 (sh_X0 hb) rfl rfl rfl rfl (Nat.le_of_ble_eq_true rfl) (Nat.le_of_ble_eq_true rfl) (Nat.zero_le _) (Nat.zero_le _) dX0_excess_59 (fun r1 m2 => ?_)
  refine hv_icmp_ge (tgt := 83) hc dX0_excess_62 (by decide) ?_ ?_
  · refine hv_iinc_s (lvf := fun y3 => [(3, .int (hv_I y3)), (0, .ref (hv_ad X b)), (1, .int (hv_I x1)), (2, .int (hv_I x2)), (4, .int (hv_I x4)), (5, .int (hv_I x5)), (6, .int (hv_I x6))]) hc dX0_excess_83 (by decide) (hv_m 3 rfl) (fun _ => rfl) (fun y3 => ?_)
    refine hv_iinc_s (lvf := fun y4 => [(5, .int (hv_I y4)), (3, .int (hv_I y3)), (0, .ref (hv_ad X b)), (1, .int (hv_I x1)), (2, .int (hv_I x2)), (4, .int (hv_I x4)), (6, .int (hv_I x6))]) hc dX0_excess_86 (by decide) (hv_m 5 rfl) (fun _ => rfl) (fun y4 => ?_)
    refine hv_goto (tgt := 8) hc dX0_excess_89 (by decide) ?_
    exact hv_pick [2, 3, 4, 1, 5, 0] rfl (hR8 x1 x2 y3 x4 y4 m2)
  · refine hv_aload_n hc dX0_excess_65 rfl (hv_m 0 rfl) ?_
    refine hv_iload_n hc dX0_excess_66 rfl (hv_m 2 rfl) ?_
    refine hv_iload hc dX0_excess_67 (hv_m 4 rfl) ?_
    refine hv_callVi hc (c_X0_turnAt b hb x2 x4 m2) yv_X0_turnAt tw_620 (sh_X0 hb) rfl rfl rfl rfl (Nat.le_of_ble_eq_true rfl) (Nat.le_of_ble_eq_true rfl) (Nat.zero_le _) (Nat.zero_le _) dX0_excess_69 (fun r5 m6 => ?_)
    refine hv_iload hc dX0_excess_72 (hv_m 6 rfl) ?_
    refine hv_icmp_ne (tgt := 83) hc dX0_excess_74 (by decide) ?_ ?_
    · refine hv_iinc_s (lvf := fun y7 => [(3, .int (hv_I y7)), (0, .ref (hv_ad X b)), (1, .int (hv_I x1)), (2, .int (hv_I x2)), (4, .int (hv_I x4)), (5, .int (hv_I x5)), (6, .int (hv_I x6))]) hc dX0_excess_83 (by decide) (hv_m 3 rfl) (fun _ => rfl) (fun y7 => ?_)
      refine hv_iinc_s (lvf := fun y8 => [(5, .int (hv_I y8)), (3, .int (hv_I y7)), (0, .ref (hv_ad X b)), (1, .int (hv_I x1)), (2, .int (hv_I x2)), (4, .int (hv_I x4)), (6, .int (hv_I x6))]) hc dX0_excess_86 (by decide) (hv_m 5 rfl) (fun _ => rfl) (fun y8 => ?_)
      refine hv_goto (tgt := 8) hc dX0_excess_89 (by decide) ?_
      exact hv_pick [2, 3, 4, 1, 5, 0] rfl (hR8 x1 x2 y7 x4 y8 m6)
    · refine hv_iinc_s (lvf := fun y9 => [(4, .int (hv_I y9)), (0, .ref (hv_ad X b)), (1, .int (hv_I x1)), (2, .int (hv_I x2)), (3, .int (hv_I x3)), (5, .int (hv_I x5)), (6, .int (hv_I x6))]) hc dX0_excess_77 (by decide) (hv_m 4 rfl) (fun _ => rfl) (fun y9 => ?_)
      refine hv_goto (tgt := 86) hc dX0_excess_80 (by decide) ?_
      refine hv_iinc_s (lvf := fun y10 => [(5, .int (hv_I y10)), (4, .int (hv_I y9)), (0, .ref (hv_ad X b)), (1, .int (hv_I x1)), (2, .int (hv_I x2)), (3, .int (hv_I x3)), (6, .int (hv_I x6))]) hc dX0_excess_86 (by decide) (hv_m 5 rfl) (fun _ => rfl) (fun y10 => ?_)
      refine hv_goto (tgt := 8) hc dX0_excess_89 (by decide) ?_
      exact hv_pick [2, 3, 4, 5, 1, 0] rfl (hR8 x1 x2 x3 y9 y10 m6)
def B_X0_excess_27 (b : Nat) (R8 : Int → Int → Int → Int → Int → hMem → hRs) (R27 : Int → Int → Int → Int → Int → Int → hMem → hRs) (x1 x2 x3 x4 x5 x6 : Int) (mem : hMem) : hRs := hv_b (f_X0_sizeOf b x2 mem) (fun r1 m2 => hv_lt x4 r1 (hv_b (f_X0_turnAt b x2 x4 m2) (fun r3 m4 => hv_lt r3 x6 (hv_set (x4 + 1) (fun y5 => R27 x1 x2 x3 y5 x5 x6 m4)) (J_X0_excess_55 b R8 x1 x2 x3 x4 x5 x6 m4))) (J_X0_excess_55 b R8 x1 x2 x3 x4 x5 x6 m2))
def L_X0_excess_27 (b : Nat) (R8 : Int → Int → Int → Int → Int → hMem → hRs) : Nat → Int → Int → Int → Int → Int → Int → hMem → hRs
  | 0 => fun _ _ _ _ _ _ _ => none
  | n + 1 => B_X0_excess_27 b R8 (L_X0_excess_27 b R8 n)
set_option maxRecDepth 100000 in
theorem gB_X0_excess_27 {X : hv_X} (hc : hv_C X cX0_excess 7 RX0 (some FieldType.int) 2 0 0) (b : Nat) (hb : b = 20 ∨ b = 23) (R8 : Int → Int → Int → Int → Int → hMem → hRs) (hR8 : ∀ (x1 x2 x3 x4 x5 : Int) (mem : hMem), hv_R X 7 0 0 (hv_QX X 0 0 0) (R8 x1 x2 x3 x4 x5 mem) mem [] [(0, .ref (hv_ad X b)), (1, .int (hv_I x1)), (2, .int (hv_I x2)), (3, .int (hv_I x3)), (4, .int (hv_I x4)), (5, .int (hv_I x5))] [] 8) (R27 : Int → Int → Int → Int → Int → Int → hMem → hRs) (hR27 : ∀ (x1 x2 x3 x4 x5 x6 : Int) (mem : hMem), hv_R X 7 0 0 (hv_QX X 0 0 0) (R27 x1 x2 x3 x4 x5 x6 mem) mem [] [(0, .ref (hv_ad X b)), (1, .int (hv_I x1)), (2, .int (hv_I x2)), (3, .int (hv_I x3)), (4, .int (hv_I x4)), (5, .int (hv_I x5)), (6, .int (hv_I x6))] [] 27) (x1 x2 x3 x4 x5 x6 : Int) (mem : hMem) : hv_R X 7 0 0 (hv_QX X 0 0 0) (B_X0_excess_27 b R8 R27 x1 x2 x3 x4 x5 x6 mem) mem [] [(0, .ref (hv_ad X b)), (1, .int (hv_I x1)), (2, .int (hv_I x2)), (3, .int (hv_I x3)), (4, .int (hv_I x4)), (5, .int (hv_I x5)), (6, .int (hv_I x6))] [] 27 := by
  unfold B_X0_excess_27
  refine hv_iload hc dX0_excess_27 (hv_m 4 rfl) ?_
  refine hv_aload_n hc dX0_excess_29 rfl (hv_m 0 rfl) ?_
  refine hv_iload_n hc dX0_excess_30 rfl (hv_m 2 rfl) ?_
  refine hv_callVi hc (c_X0_sizeOf b hb x2 mem) yv_X0_sizeOf tw_615 (sh_X0 hb) rfl rfl rfl rfl (Nat.le_of_ble_eq_true rfl) (Nat.le_of_ble_eq_true rfl) (Nat.zero_le _) (Nat.zero_le _) dX0_excess_31 (fun r1 m2 => ?_)
  refine hv_icmp_ge (tgt := 55) hc dX0_excess_34 (by decide) ?_ ?_
  · exact hv_pick [0, 1, 2, 3, 4, 5, 6] rfl (g_X0_excess_55 hc b hb R8 hR8 x1 x2 x3 x4 x5 x6 m2)
  · refine hv_aload_n hc dX0_excess_37 rfl (hv_m 0 rfl) ?_
    refine hv_iload_n hc dX0_excess_38 rfl (hv_m 2 rfl) ?_
    refine hv_iload hc dX0_excess_39 (hv_m 4 rfl) ?_
    refine hv_callVi hc (c_X0_turnAt b hb x2 x4 m2) yv_X0_turnAt tw_620 (sh_X0 hb) rfl rfl rfl rfl (Nat.le_of_ble_eq_true rfl) (Nat.le_of_ble_eq_true rfl) (Nat.zero_le _) (Nat.zero_le _) dX0_excess_41 (fun r3 m4 => ?_)
    refine hv_iload hc dX0_excess_44 (hv_m 6 rfl) ?_
    refine hv_icmp_ge (tgt := 55) hc dX0_excess_46 (by decide) ?_ ?_
    · exact hv_pick [0, 1, 2, 3, 4, 5, 6] rfl (g_X0_excess_55 hc b hb R8 hR8 x1 x2 x3 x4 x5 x6 m4)
    · refine hv_iinc_s (lvf := fun y5 => [(4, .int (hv_I y5)), (0, .ref (hv_ad X b)), (1, .int (hv_I x1)), (2, .int (hv_I x2)), (3, .int (hv_I x3)), (5, .int (hv_I x5)), (6, .int (hv_I x6))]) hc dX0_excess_49 (by decide) (hv_m 4 rfl) (fun _ => rfl) (fun y5 => ?_)
      refine hv_goto (tgt := 27) hc dX0_excess_52 (by decide) ?_
      exact hv_pick [1, 2, 3, 4, 0, 5, 6] rfl (hR27 x1 x2 x3 y5 x5 x6 m4)
theorem g_X0_excess_27 {X : hv_X} (hc : hv_C X cX0_excess 7 RX0 (some FieldType.int) 2 0 0) (b : Nat) (hb : b = 20 ∨ b = 23) (R8 : Int → Int → Int → Int → Int → hMem → hRs) (hR8 : ∀ (x1 x2 x3 x4 x5 : Int) (mem : hMem), hv_R X 7 0 0 (hv_QX X 0 0 0) (R8 x1 x2 x3 x4 x5 mem) mem [] [(0, .ref (hv_ad X b)), (1, .int (hv_I x1)), (2, .int (hv_I x2)), (3, .int (hv_I x3)), (4, .int (hv_I x4)), (5, .int (hv_I x5))] [] 8) : ∀ (n : Nat) (x1 x2 x3 x4 x5 x6 : Int) (mem : hMem), hv_R X 7 0 0 (hv_QX X 0 0 0) (L_X0_excess_27 b R8 n x1 x2 x3 x4 x5 x6 mem) mem [] [(0, .ref (hv_ad X b)), (1, .int (hv_I x1)), (2, .int (hv_I x2)), (3, .int (hv_I x3)), (4, .int (hv_I x4)), (5, .int (hv_I x5)), (6, .int (hv_I x6))] [] 27 := by
  intro n
  induction n with
  | zero => intros; exact hv_none
  | succ n ih => exact gB_X0_excess_27 hc b hb R8 hR8 _ ih
def B_X0_excess_8 (b : Nat) (R8 : Int → Int → Int → Int → Int → hMem → hRs) (x1 x2 x3 x4 x5 : Int) (mem : hMem) : hRs := hv_b (f_X0_sizeOf b x1 mem) (fun r1 m2 => hv_lt x5 r1 (hv_b (f_X0_turnAt b x1 x5 m2) (fun r3 m4 => L_X0_excess_27 b R8 hv_FU x1 x2 x3 x4 x5 r3 m4)) (hv_ret x3 m2))
def L_X0_excess_8 (b : Nat) : Nat → Int → Int → Int → Int → Int → hMem → hRs
  | 0 => fun _ _ _ _ _ _ => none
  | n + 1 => B_X0_excess_8 b (L_X0_excess_8 b n)
set_option maxRecDepth 100000 in
theorem gB_X0_excess_8 {X : hv_X} (hc : hv_C X cX0_excess 7 RX0 (some FieldType.int) 2 0 0) (b : Nat) (hb : b = 20 ∨ b = 23) (R8 : Int → Int → Int → Int → Int → hMem → hRs) (hR8 : ∀ (x1 x2 x3 x4 x5 : Int) (mem : hMem), hv_R X 7 0 0 (hv_QX X 0 0 0) (R8 x1 x2 x3 x4 x5 mem) mem [] [(0, .ref (hv_ad X b)), (1, .int (hv_I x1)), (2, .int (hv_I x2)), (3, .int (hv_I x3)), (4, .int (hv_I x4)), (5, .int (hv_I x5))] [] 8) (x1 x2 x3 x4 x5 : Int) (mem : hMem) : hv_R X 7 0 0 (hv_QX X 0 0 0) (B_X0_excess_8 b R8 x1 x2 x3 x4 x5 mem) mem [] [(0, .ref (hv_ad X b)), (1, .int (hv_I x1)), (2, .int (hv_I x2)), (3, .int (hv_I x3)), (4, .int (hv_I x4)), (5, .int (hv_I x5))] [] 8 := by
  unfold B_X0_excess_8
  refine hv_iload hc dX0_excess_8 (hv_m 5 rfl) ?_
  refine hv_aload_n hc dX0_excess_10 rfl (hv_m 0 rfl) ?_
  refine hv_iload_n hc dX0_excess_11 rfl (hv_m 1 rfl) ?_
  refine hv_callVi hc (c_X0_sizeOf b hb x1 mem) yv_X0_sizeOf tw_615 (sh_X0 hb) rfl rfl rfl rfl (Nat.le_of_ble_eq_true rfl) (Nat.le_of_ble_eq_true rfl) (Nat.zero_le _) (Nat.zero_le _) dX0_excess_12 (fun r1 m2 => ?_)
  refine hv_icmp_ge (tgt := 92) hc dX0_excess_15 (by decide) ?_ ?_
  · refine hv_iload_n hc dX0_excess_92 rfl (hv_m 3 rfl) ?_
    exact hv_iret hc dX0_excess_93
  · refine hv_aload_n hc dX0_excess_18 rfl (hv_m 0 rfl) ?_
    refine hv_iload_n hc dX0_excess_19 rfl (hv_m 1 rfl) ?_
    refine hv_iload hc dX0_excess_20 (hv_m 5 rfl) ?_
    refine hv_callVi hc (c_X0_turnAt b hb x1 x5 m2) yv_X0_turnAt tw_620 (sh_X0 hb) rfl rfl rfl rfl (Nat.le_of_ble_eq_true rfl) (Nat.le_of_ble_eq_true rfl) (Nat.zero_le _) (Nat.zero_le _) dX0_excess_22 (fun r3 m4 => ?_)
    refine hv_istore (lv' := [(6, .int (hv_I r3)), (0, .ref (hv_ad X b)), (1, .int (hv_I x1)), (2, .int (hv_I x2)), (3, .int (hv_I x3)), (4, .int (hv_I x4)), (5, .int (hv_I x5))]) hc dX0_excess_25 (by decide) rfl ?_
    exact hv_pick [1, 2, 3, 4, 5, 6, 0] rfl (g_X0_excess_27 hc b hb R8 hR8 hv_FU x1 x2 x3 x4 x5 r3 m4)
theorem g_X0_excess_8 {X : hv_X} (hc : hv_C X cX0_excess 7 RX0 (some FieldType.int) 2 0 0) (b : Nat) (hb : b = 20 ∨ b = 23) : ∀ (n : Nat) (x1 x2 x3 x4 x5 : Int) (mem : hMem), hv_R X 7 0 0 (hv_QX X 0 0 0) (L_X0_excess_8 b n x1 x2 x3 x4 x5 mem) mem [] [(0, .ref (hv_ad X b)), (1, .int (hv_I x1)), (2, .int (hv_I x2)), (3, .int (hv_I x3)), (4, .int (hv_I x4)), (5, .int (hv_I x5))] [] 8 := by
  intro n
  induction n with
  | zero => intros; exact hv_none
  | succ n ih => exact gB_X0_excess_8 hc b hb _ ih
def f_X0_excess (b : Nat) (x1 x2 : Int) (mem : hMem) : hRs := L_X0_excess_8 b hv_FU x1 x2 0 0 0 mem
set_option maxRecDepth 100000 in
set_option maxHeartbeats 4000000 in
theorem c_X0_excess (b : Nat) (hb : b = 20 ∨ b = 23) (x1 x2 : Int) (mem : hMem) : hv_Met 2 0 0 0 yX0_excess cX0_excess 7 (some FieldType.int) (fun ad _ _ => [.ref (ad b), .int (hv_I x1), .int (hv_I x2)]) mem (f_X0_excess b x1 x2 mem) := by
  refine hv_start (by decide +kernel) (fun _ _ _ => Nat.le_of_ble_eq_true rfl) ?_
  intro X hc
  have hc : hv_C X cX0_excess 7 RX0 (some FieldType.int) 2 0 0 := hc
  show hv_R X 7 0 0 (hv_QX X 0 0 0) (f_X0_excess b x1 x2 mem) mem [] [(0, .ref (hv_ad X b)), (1, .int (hv_I x1)), (2, .int (hv_I x2))] [] 0
  unfold f_X0_excess
  refine hv_iconst hc dX0_excess_0 ?_
  refine hv_istore_n (lv' := [(3, .int (hv_I 0)), (0, .ref (hv_ad X b)), (1, .int (hv_I x1)), (2, .int (hv_I x2))]) hc dX0_excess_1 rfl (by decide) rfl ?_
  refine hv_iconst hc dX0_excess_2 ?_
  refine hv_istore (lv' := [(4, .int (hv_I 0)), (3, .int (hv_I 0)), (0, .ref (hv_ad X b)), (1, .int (hv_I x1)), (2, .int (hv_I x2))]) hc dX0_excess_3 (by decide) rfl ?_
  refine hv_iconst hc dX0_excess_5 ?_
  refine hv_istore (lv' := [(5, .int (hv_I 0)), (4, .int (hv_I 0)), (3, .int (hv_I 0)), (0, .ref (hv_ad X b)), (1, .int (hv_I x1)), (2, .int (hv_I x2))]) hc dX0_excess_6 (by decide) rfl ?_
  exact hv_pick [3, 4, 5, 2, 1, 0] rfl (g_X0_excess_8 hc b hb hv_FU x1 x2 0 0 0 mem)
def f_X10_set (k0 n0 : Nat) (x1 x2 : Int) (mem : hMem) : hRs := hv_lt x1 0 (hv_ret 0 mem) (hv_lt x1 ((n0 : Int)) (hv_ast mem k0 n0 x1 x2 (fun m1 => hv_ret 0 m1)) (hv_ret 0 mem))
set_option maxRecDepth 100000 in
set_option maxHeartbeats 4000000 in
theorem c_X10_set (k0 n0 : Nat) (hk0 : hv_SH k0 = some (.inl n0)) (hn0 : n0 ≤ 2147483647) (x1 x2 : Int) (mem : hMem) : hv_Met 0 0 0 1 yX10_set cX10_set 3 (none) (fun ad _ _ => [.ref (ad k0), .int (hv_I x1), .int (hv_I x2)]) mem (f_X10_set k0 n0 x1 x2 mem) := by
  refine hv_start (by decide +kernel) (fun _ _ _ => Nat.le_of_ble_eq_true rfl) ?_
  intro X hc
  have hc : hv_C X cX10_set 3 RX10 (none) 0 0 0 := hc
  show hv_R X 3 0 0 (hv_QX X 1 0 0) (f_X10_set k0 n0 x1 x2 mem) mem [] [(0, .ref (hv_ad X k0)), (1, .int (hv_I x1)), (2, .int (hv_I x2))] [] 0
  unfold f_X10_set
  refine hv_iload_n hc dX10_set_0 rfl (hv_m 1 rfl) ?_
  refine hv_if_lt (tgt := 14) hc dX10_set_1 (by decide) ?_ ?_
  · exact hv_vret hc dX10_set_14
  · refine hv_iload_n hc dX10_set_4 rfl (hv_m 1 rfl) ?_
    refine hv_aload_n hc dX10_set_5 rfl (hv_m 0 rfl) ?_
    refine hv_alen hc hk0 dX10_set_6 ?_
    refine hv_icmp_ge (tgt := 14) hc dX10_set_7 (by decide) ?_ ?_
    · exact hv_vret hc dX10_set_14
    · refine hv_aload_n hc dX10_set_10 rfl (hv_m 0 rfl) ?_
      refine hv_iload_n hc dX10_set_11 rfl (hv_m 1 rfl) ?_
      refine hv_iload_n hc dX10_set_12 rfl (hv_m 2 rfl) ?_
      refine hv_iastore hc hk0 hn0 dX10_set_13 (fun m1 => ?_)
      exact hv_vret hc dX10_set_14
def f_X0_append (b : Nat) (x1 x2 : Int) (mem : hMem) : hRs := hv_b (f_X0_sizeOf b x1 mem) (fun r1 m2 => hv_lt r1 24 (hv_b (f_X10_set (b + 1) 720 ((x1 * 24) + r1) x2 m2) (fun r3 m4 => hv_b (f_X10_set (b + 2) 30 x1 (r1 + 1) m4) (fun r5 m6 => hv_ret 0 m6))) (hv_ret 0 m2))
set_option maxRecDepth 100000 in
set_option maxHeartbeats 4000000 in
theorem c_X0_append (b : Nat) (hb : b = 20 ∨ b = 23) (x1 x2 : Int) (mem : hMem) : hv_Met 2 0 0 1 yX0_append cX0_append 4 (none) (fun ad _ _ => [.ref (ad b), .int (hv_I x1), .int (hv_I x2)]) mem (f_X0_append b x1 x2 mem) := by
  refine hv_start (by decide +kernel) (fun _ _ _ => Nat.le_of_ble_eq_true rfl) ?_
  intro X hc
  have hc : hv_C X cX0_append 4 RX0 (none) 2 0 0 := hc
  show hv_R X 4 0 0 (hv_QX X 1 0 0) (f_X0_append b x1 x2 mem) mem [] [(0, .ref (hv_ad X b)), (1, .int (hv_I x1)), (2, .int (hv_I x2))] [] 0
  unfold f_X0_append
  refine hv_aload_n hc dX0_append_0 rfl (hv_m 0 rfl) ?_
  refine hv_iload_n hc dX0_append_1 rfl (hv_m 1 rfl) ?_
  refine hv_callVi hc (c_X0_sizeOf b hb x1 mem) yv_X0_sizeOf tw_615 (sh_X0 hb) rfl rfl rfl rfl (Nat.le_of_ble_eq_true rfl) (Nat.le_of_ble_eq_true rfl) (Nat.zero_le _) (Nat.zero_le _) dX0_append_2 (fun r1 m2 => ?_)
  refine hv_istore_n (lv' := [(3, .int (hv_I r1)), (0, .ref (hv_ad X b)), (1, .int (hv_I x1)), (2, .int (hv_I x2))]) hc dX0_append_5 rfl (by decide) rfl ?_
  refine hv_iload_n hc dX0_append_6 rfl (hv_m 0 rfl) ?_
  refine hv_bipush hc dX0_append_7 (by decide) ?_
  refine hv_icmp_ge (tgt := 37) hc dX0_append_9 (by decide) ?_ ?_
  · exact hv_vret hc dX0_append_37
  · refine hv_aload_n hc dX0_append_12 rfl (hv_m 1 rfl) ?_
    refine hv_getR hc fl_X0_9 (sh_X0 hb) rfl dX0_append_13 ?_
    refine hv_iload_n hc dX0_append_16 rfl (hv_m 2 rfl) ?_
    refine hv_bipush hc dX0_append_17 (by decide) ?_
    refine hv_imul hc dX0_append_19 ?_
    refine hv_iload_n hc dX0_append_20 rfl (hv_m 0 rfl) ?_
    refine hv_iadd hc dX0_append_21 ?_
    refine hv_iload_n hc dX0_append_22 rfl (hv_m 3 rfl) ?_
    refine hv_callSNv hc (c_X10_set (b + 1) 720 (sh_X0_1 hb) (Nat.le_of_ble_eq_true rfl) ((x1 * 24) + r1) x2 m2) ys_X10_set nl_14 rfl rfl rfl (Nat.le_of_ble_eq_true rfl) (Nat.le_of_ble_eq_true rfl) (Nat.zero_le _) (Nat.zero_le _) dX0_append_23 (fun r3 m4 => ?_)
    refine hv_aload_n hc dX0_append_26 rfl (hv_m 1 rfl) ?_
    refine hv_getR hc fl_X0_15 (sh_X0 hb) rfl dX0_append_27 ?_
    refine hv_iload_n hc dX0_append_30 rfl (hv_m 2 rfl) ?_
    refine hv_iload_n hc dX0_append_31 rfl (hv_m 0 rfl) ?_
    refine hv_iconst hc dX0_append_32 ?_
    refine hv_iadd hc dX0_append_33 ?_
    refine hv_callSNv hc (c_X10_set (b + 2) 30 (sh_X0_2 hb) (Nat.le_of_ble_eq_true rfl) x1 (r1 + 1) m4) ys_X10_set nl_14 rfl rfl rfl (Nat.le_of_ble_eq_true rfl) (Nat.le_of_ble_eq_true rfl) (Nat.zero_le _) (Nat.zero_le _) dX0_append_34 (fun r5 m6 => ?_)
    exact hv_vret hc dX0_append_37
def B_X0_copyWith_57 (b : Nat) (R57 : Int → Int → Int → hMem → hRs) (x1 x2 x4 : Int) (mem : hMem) : hRs := hv_b (f_X0_sizeOf b x2 mem) (fun r1 m2 => hv_lt x4 r1 (hv_b (f_X0_turnAt b x2 x4 m2) (fun r3 m4 => hv_b (f_X0_append b x1 r3 m4) (fun r5 m6 => hv_set (x4 + 1) (fun y7 => R57 x1 x2 y7 m6)))) (hv_ret 0 m2))
def L_X0_copyWith_57 (b : Nat) : Nat → Int → Int → Int → hMem → hRs
  | 0 => fun _ _ _ _ => none
  | n + 1 => B_X0_copyWith_57 b (L_X0_copyWith_57 b n)
set_option maxRecDepth 100000 in
theorem gB_X0_copyWith_57 {X : hv_X} (hc : hv_C X cX0_copyWith 5 RX0 (none) 3 0 0) (b : Nat) (hb : b = 20 ∨ b = 23) (R57 : Int → Int → Int → hMem → hRs) (hR57 : ∀ (x1 x2 x4 : Int) (mem : hMem), hv_R X 5 0 0 (hv_QX X 1 0 0) (R57 x1 x2 x4 mem) mem [] [(0, .ref (hv_ad X b)), (1, .int (hv_I x1)), (2, .int (hv_I x2)), (4, .int (hv_I x4))] [] 57) (x1 x2 x4 : Int) (mem : hMem) : hv_R X 5 0 0 (hv_QX X 1 0 0) (B_X0_copyWith_57 b R57 x1 x2 x4 mem) mem [] [(0, .ref (hv_ad X b)), (1, .int (hv_I x1)), (2, .int (hv_I x2)), (4, .int (hv_I x4))] [] 57 := by
  unfold B_X0_copyWith_57
  refine hv_iload hc dX0_copyWith_57 (hv_m 3 rfl) ?_
  refine hv_aload_n hc dX0_copyWith_59 rfl (hv_m 0 rfl) ?_
  refine hv_iload_n hc dX0_copyWith_60 rfl (hv_m 2 rfl) ?_
  refine hv_callVi hc (c_X0_sizeOf b hb x2 mem) yv_X0_sizeOf tw_615 (sh_X0 hb) rfl rfl rfl rfl (Nat.le_of_ble_eq_true rfl) (Nat.le_of_ble_eq_true rfl) (Nat.zero_le _) (Nat.zero_le _) dX0_copyWith_61 (fun r1 m2 => ?_)
  refine hv_icmp_ge (tgt := 85) hc dX0_copyWith_64 (by decide) ?_ ?_
  · exact hv_vret hc dX0_copyWith_85
  · refine hv_aload_n hc dX0_copyWith_67 rfl (hv_m 0 rfl) ?_
    refine hv_iload_n hc dX0_copyWith_68 rfl (hv_m 1 rfl) ?_
    refine hv_aload_n hc dX0_copyWith_69 rfl (hv_m 0 rfl) ?_
    refine hv_iload_n hc dX0_copyWith_70 rfl (hv_m 2 rfl) ?_
    refine hv_iload hc dX0_copyWith_71 (hv_m 3 rfl) ?_
    refine hv_callVi hc (c_X0_turnAt b hb x2 x4 m2) yv_X0_turnAt tw_620 (sh_X0 hb) rfl rfl rfl rfl (Nat.le_of_ble_eq_true rfl) (Nat.le_of_ble_eq_true rfl) (Nat.zero_le _) (Nat.zero_le _) dX0_copyWith_73 (fun r3 m4 => ?_)
    refine hv_callVv hc (c_X0_append b hb x1 r3 m4) yv_X0_append tw_645 (sh_X0 hb) rfl rfl rfl rfl (Nat.le_of_ble_eq_true rfl) (Nat.le_of_ble_eq_true rfl) (Nat.zero_le _) (Nat.zero_le _) dX0_copyWith_76 (fun r5 m6 => ?_)
    refine hv_iinc_s (lvf := fun y7 => [(4, .int (hv_I y7)), (0, .ref (hv_ad X b)), (1, .int (hv_I x1)), (2, .int (hv_I x2))]) hc dX0_copyWith_79 (by decide) (hv_m 3 rfl) (fun _ => rfl) (fun y7 => ?_)
    refine hv_goto (tgt := 57) hc dX0_copyWith_82 (by decide) ?_
    exact hv_pick [1, 2, 3, 0] rfl (hR57 x1 x2 y7 m6)
theorem g_X0_copyWith_57 {X : hv_X} (hc : hv_C X cX0_copyWith 5 RX0 (none) 3 0 0) (b : Nat) (hb : b = 20 ∨ b = 23) : ∀ (n : Nat) (x1 x2 x4 : Int) (mem : hMem), hv_R X 5 0 0 (hv_QX X 1 0 0) (L_X0_copyWith_57 b n x1 x2 x4 mem) mem [] [(0, .ref (hv_ad X b)), (1, .int (hv_I x1)), (2, .int (hv_I x2)), (4, .int (hv_I x4))] [] 57 := by
  intro n
  induction n with
  | zero => intros; exact hv_none
  | succ n ih => exact gB_X0_copyWith_57 hc b hb _ ih
def J_X0_copyWith_51 (b : Nat) (x1 x2 x3 x4 : Int) (mem : hMem) : hRs := hv_b (f_X0_append b x1 x3 mem) (fun r1 m2 => L_X0_copyWith_57 b hv_FU x1 x2 x4 m2)
set_option maxRecDepth 100000 in
theorem g_X0_copyWith_51 {X : hv_X} (hc : hv_C X cX0_copyWith 5 RX0 (none) 3 0 0) (b : Nat) (hb : b = 20 ∨ b = 23) (x1 x2 x3 x4 : Int) (mem : hMem) : hv_R X 5 0 0 (hv_QX X 1 0 0) (J_X0_copyWith_51 b x1 x2 x3 x4 mem) mem [] [(0, .ref (hv_ad X b)), (1, .int (hv_I x1)), (2, .int (hv_I x2)), (3, .int (hv_I x3)), (4, .int (hv_I x4))] [] 51 := by
  unfold J_X0_copyWith_51
  refine hv_aload_n hc dX0_copyWith_51 rfl (hv_m 0 rfl) ?_
  refine hv_iload_n hc dX0_copyWith_52 rfl (hv_m 1 rfl) ?_
  refine hv_iload_n hc dX0_copyWith_53 rfl (hv_m 3 rfl) ?_
  refine hv_callVv hc (c_X0_append b hb x1 x3 mem) yv_X0_append tw_645 (sh_X0 hb) rfl rfl rfl rfl (Nat.le_of_ble_eq_true rfl) (Nat.le_of_ble_eq_true rfl) (Nat.zero_le _) (Nat.zero_le _) dX0_copyWith_54 (fun r1 m2 => ?_)
  exact hv_pick [0, 1, 2, 4] rfl (g_X0_copyWith_57 hc b hb hv_FU x1 x2 x4 m2)
def B_X0_copyWith_12 (b : Nat) (R12 : Int → Int → Int → Int → hMem → hRs) (x1 x2 x3 x4 : Int) (mem : hMem) : hRs := hv_b (f_X0_sizeOf b x2 mem) (fun r1 m2 => hv_lt x4 r1 (hv_b (f_X0_turnAt b x2 x4 m2) (fun r3 m4 => hv_lt r3 x3 (hv_b (f_X0_turnAt b x2 x4 m4) (fun r5 m6 => hv_b (f_X0_append b x1 r5 m6) (fun r7 m8 => hv_set (x4 + 1) (fun y9 => R12 x1 x2 x3 y9 m8)))) (J_X0_copyWith_51 b x1 x2 x3 x4 m4))) (J_X0_copyWith_51 b x1 x2 x3 x4 m2))
def L_X0_copyWith_12 (b : Nat) : Nat → Int → Int → Int → Int → hMem → hRs
  | 0 => fun _ _ _ _ _ => none
  | n + 1 => B_X0_copyWith_12 b (L_X0_copyWith_12 b n)
set_option maxRecDepth 100000 in
theorem gB_X0_copyWith_12 {X : hv_X} (hc : hv_C X cX0_copyWith 5 RX0 (none) 3 0 0) (b : Nat) (hb : b = 20 ∨ b = 23) (R12 : Int → Int → Int → Int → hMem → hRs) (hR12 : ∀ (x1 x2 x3 x4 : Int) (mem : hMem), hv_R X 5 0 0 (hv_QX X 1 0 0) (R12 x1 x2 x3 x4 mem) mem [] [(0, .ref (hv_ad X b)), (1, .int (hv_I x1)), (2, .int (hv_I x2)), (3, .int (hv_I x3)), (4, .int (hv_I x4))] [] 12) (x1 x2 x3 x4 : Int) (mem : hMem) : hv_R X 5 0 0 (hv_QX X 1 0 0) (B_X0_copyWith_12 b R12 x1 x2 x3 x4 mem) mem [] [(0, .ref (hv_ad X b)), (1, .int (hv_I x1)), (2, .int (hv_I x2)), (3, .int (hv_I x3)), (4, .int (hv_I x4))] [] 12 := by
  unfold B_X0_copyWith_12
  refine hv_iload hc dX0_copyWith_12 (hv_m 4 rfl) ?_
  refine hv_aload_n hc dX0_copyWith_14 rfl (hv_m 0 rfl) ?_
  refine hv_iload_n hc dX0_copyWith_15 rfl (hv_m 2 rfl) ?_
  refine hv_callVi hc (c_X0_sizeOf b hb x2 mem) yv_X0_sizeOf tw_615 (sh_X0 hb) rfl rfl rfl rfl (Nat.le_of_ble_eq_true rfl) (Nat.le_of_ble_eq_true rfl) (Nat.zero_le _) (Nat.zero_le _) dX0_copyWith_16 (fun r1 m2 => ?_)
  refine hv_icmp_ge (tgt := 51) hc dX0_copyWith_19 (by decide) ?_ ?_
  · exact hv_pick [0, 1, 2, 3, 4] rfl (g_X0_copyWith_51 hc b hb x1 x2 x3 x4 m2)
  · refine hv_aload_n hc dX0_copyWith_22 rfl (hv_m 0 rfl) ?_
    refine hv_iload_n hc dX0_copyWith_23 rfl (hv_m 2 rfl) ?_
    refine hv_iload hc dX0_copyWith_24 (hv_m 4 rfl) ?_
    refine hv_callVi hc (c_X0_turnAt b hb x2 x4 m2) yv_X0_turnAt tw_620 (sh_X0 hb) rfl rfl rfl rfl (Nat.le_of_ble_eq_true rfl) (Nat.le_of_ble_eq_true rfl) (Nat.zero_le _) (Nat.zero_le _) dX0_copyWith_26 (fun r3 m4 => ?_)
    refine hv_iload_n hc dX0_copyWith_29 rfl (hv_m 3 rfl) ?_
    refine hv_icmp_ge (tgt := 51) hc dX0_copyWith_30 (by decide) ?_ ?_
    · exact hv_pick [0, 1, 2, 3, 4] rfl (g_X0_copyWith_51 hc b hb x1 x2 x3 x4 m4)
    · refine hv_aload_n hc dX0_copyWith_33 rfl (hv_m 0 rfl) ?_
      refine hv_iload_n hc dX0_copyWith_34 rfl (hv_m 1 rfl) ?_
      refine hv_aload_n hc dX0_copyWith_35 rfl (hv_m 0 rfl) ?_
      refine hv_iload_n hc dX0_copyWith_36 rfl (hv_m 2 rfl) ?_
      refine hv_iload hc dX0_copyWith_37 (hv_m 4 rfl) ?_
      refine hv_callVi hc (c_X0_turnAt b hb x2 x4 m4) yv_X0_turnAt tw_620 (sh_X0 hb) rfl rfl rfl rfl (Nat.le_of_ble_eq_true rfl) (Nat.le_of_ble_eq_true rfl) (Nat.zero_le _) (Nat.zero_le _) dX0_copyWith_39 (fun r5 m6 => ?_)
      refine hv_callVv hc (c_X0_append b hb x1 r5 m6) yv_X0_append tw_645 (sh_X0 hb) rfl rfl rfl rfl (Nat.le_of_ble_eq_true rfl) (Nat.le_of_ble_eq_true rfl) (Nat.zero_le _) (Nat.zero_le _) dX0_copyWith_42 (fun r7 m8 => ?_)
      refine hv_iinc_s (lvf := fun y9 => [(4, .int (hv_I y9)), (0, .ref (hv_ad X b)), (1, .int (hv_I x1)), (2, .int (hv_I x2)), (3, .int (hv_I x3))]) hc dX0_copyWith_45 (by decide) (hv_m 4 rfl) (fun _ => rfl) (fun y9 => ?_)
      refine hv_goto (tgt := 12) hc dX0_copyWith_48 (by decide) ?_
      exact hv_pick [1, 2, 3, 4, 0] rfl (hR12 x1 x2 x3 y9 m8)
theorem g_X0_copyWith_12 {X : hv_X} (hc : hv_C X cX0_copyWith 5 RX0 (none) 3 0 0) (b : Nat) (hb : b = 20 ∨ b = 23) : ∀ (n : Nat) (x1 x2 x3 x4 : Int) (mem : hMem), hv_R X 5 0 0 (hv_QX X 1 0 0) (L_X0_copyWith_12 b n x1 x2 x3 x4 mem) mem [] [(0, .ref (hv_ad X b)), (1, .int (hv_I x1)), (2, .int (hv_I x2)), (3, .int (hv_I x3)), (4, .int (hv_I x4))] [] 12 := by
  intro n
  induction n with
  | zero => intros; exact hv_none
  | succ n ih => exact gB_X0_copyWith_12 hc b hb _ ih
def f_X0_copyWith (b : Nat) (x1 x2 x3 : Int) (mem : hMem) : hRs := hv_b (f_X10_set (b + 2) 30 x1 0 mem) (fun r1 m2 => L_X0_copyWith_12 b hv_FU x1 x2 x3 0 m2)
set_option maxRecDepth 100000 in
set_option maxHeartbeats 4000000 in
theorem c_X0_copyWith (b : Nat) (hb : b = 20 ∨ b = 23) (x1 x2 x3 : Int) (mem : hMem) : hv_Met 3 0 0 1 yX0_copyWith cX0_copyWith 5 (none) (fun ad _ _ => [.ref (ad b), .int (hv_I x1), .int (hv_I x2), .int (hv_I x3)]) mem (f_X0_copyWith b x1 x2 x3 mem) := by
  refine hv_start (by decide +kernel) (fun _ _ _ => Nat.le_of_ble_eq_true rfl) ?_
  intro X hc
  have hc : hv_C X cX0_copyWith 5 RX0 (none) 3 0 0 := hc
  show hv_R X 5 0 0 (hv_QX X 1 0 0) (f_X0_copyWith b x1 x2 x3 mem) mem [] [(0, .ref (hv_ad X b)), (1, .int (hv_I x1)), (2, .int (hv_I x2)), (3, .int (hv_I x3))] [] 0
  unfold f_X0_copyWith
  refine hv_aload_n hc dX0_copyWith_0 rfl (hv_m 0 rfl) ?_
  refine hv_getR hc fl_X0_15 (sh_X0 hb) rfl dX0_copyWith_1 ?_
  refine hv_iload_n hc dX0_copyWith_4 rfl (hv_m 1 rfl) ?_
  refine hv_iconst hc dX0_copyWith_5 ?_
  refine hv_callSNv hc (c_X10_set (b + 2) 30 (sh_X0_2 hb) (Nat.le_of_ble_eq_true rfl) x1 0 mem) ys_X10_set nl_14 rfl rfl rfl (Nat.le_of_ble_eq_true rfl) (Nat.le_of_ble_eq_true rfl) (Nat.zero_le _) (Nat.zero_le _) dX0_copyWith_6 (fun r1 m2 => ?_)
  refine hv_iconst hc dX0_copyWith_9 ?_
  refine hv_istore (lv' := [(4, .int (hv_I 0)), (0, .ref (hv_ad X b)), (1, .int (hv_I x1)), (2, .int (hv_I x2)), (3, .int (hv_I x3))]) hc dX0_copyWith_10 (by decide) rfl ?_
  exact hv_pick [1, 2, 3, 4, 0] rfl (g_X0_copyWith_12 hc b hb hv_FU x1 x2 x3 0 m2)
def B_X0_mix_87 (b : Nat) (R87 : Int → Int → Int → hMem → hRs) (x1 x3 x4 : Int) (mem : hMem) : hRs := hv_b (f_X0_sizeOf b x3 mem) (fun r1 m2 => hv_lt x4 r1 (hv_b (f_X0_turnAt b x3 x4 m2) (fun r3 m4 => hv_b (f_X0_append b x1 r3 m4) (fun r5 m6 => hv_set (x4 + 1) (fun y7 => R87 x1 x3 y7 m6)))) (hv_ret 0 m2))
def L_X0_mix_87 (b : Nat) : Nat → Int → Int → Int → hMem → hRs
  | 0 => fun _ _ _ _ => none
  | n + 1 => B_X0_mix_87 b (L_X0_mix_87 b n)
set_option maxRecDepth 100000 in
theorem gB_X0_mix_87 {X : hv_X} (hc : hv_C X cX0_mix 7 RX0 (none) 3 0 0) (b : Nat) (hb : b = 20 ∨ b = 23) (R87 : Int → Int → Int → hMem → hRs) (hR87 : ∀ (x1 x3 x4 : Int) (mem : hMem), hv_R X 7 0 0 (hv_QX X 1 0 0) (R87 x1 x3 x4 mem) mem [] [(0, .ref (hv_ad X b)), (1, .int (hv_I x1)), (3, .int (hv_I x3)), (4, .int (hv_I x4))] [] 87) (x1 x3 x4 : Int) (mem : hMem) : hv_R X 7 0 0 (hv_QX X 1 0 0) (B_X0_mix_87 b R87 x1 x3 x4 mem) mem [] [(0, .ref (hv_ad X b)), (1, .int (hv_I x1)), (3, .int (hv_I x3)), (4, .int (hv_I x4))] [] 87 := by
  unfold B_X0_mix_87
  refine hv_iload hc dX0_mix_87 (hv_m 3 rfl) ?_
  refine hv_aload_n hc dX0_mix_89 rfl (hv_m 0 rfl) ?_
  refine hv_iload_n hc dX0_mix_90 rfl (hv_m 2 rfl) ?_
  refine hv_callVi hc (c_X0_sizeOf b hb x3 mem) yv_X0_sizeOf tw_615 (sh_X0 hb) rfl rfl rfl rfl (Nat.le_of_ble_eq_true rfl) (Nat.le_of_ble_eq_true rfl) (Nat.zero_le _) (Nat.zero_le _) dX0_mix_91 (fun r1 m2 => ?_)
  refine hv_icmp_ge (tgt := 115) hc dX0_mix_94 (by decide) ?_ ?_
  · exact hv_vret hc dX0_mix_115
  · refine hv_aload_n hc dX0_mix_97 rfl (hv_m 0 rfl) ?_
    refine hv_iload_n hc dX0_mix_98 rfl (hv_m 1 rfl) ?_
    refine hv_aload_n hc dX0_mix_99 rfl (hv_m 0 rfl) ?_
    refine hv_iload_n hc dX0_mix_100 rfl (hv_m 2 rfl) ?_
    refine hv_iload hc dX0_mix_101 (hv_m 3 rfl) ?_
    refine hv_callVi hc (c_X0_turnAt b hb x3 x4 m2) yv_X0_turnAt tw_620 (sh_X0 hb) rfl rfl rfl rfl (Nat.le_of_ble_eq_true rfl) (Nat.le_of_ble_eq_true rfl) (Nat.zero_le _) (Nat.zero_le _) dX0_mix_103 (fun r3 m4 => ?_)
    refine hv_callVv hc (c_X0_append b hb x1 r3 m4) yv_X0_append tw_645 (sh_X0 hb) rfl rfl rfl rfl (Nat.le_of_ble_eq_true rfl) (Nat.le_of_ble_eq_true rfl) (Nat.zero_le _) (Nat.zero_le _) dX0_mix_106 (fun r5 m6 => ?_)
    refine hv_iinc_s (lvf := fun y7 => [(4, .int (hv_I y7)), (0, .ref (hv_ad X b)), (1, .int (hv_I x1)), (3, .int (hv_I x3))]) hc dX0_mix_109 (by decide) (hv_m 3 rfl) (fun _ => rfl) (fun y7 => ?_)
    refine hv_goto (tgt := 87) hc dX0_mix_112 (by decide) ?_
    exact hv_pick [1, 2, 3, 0] rfl (hR87 x1 x3 y7 m6)
theorem g_X0_mix_87 {X : hv_X} (hc : hv_C X cX0_mix 7 RX0 (none) 3 0 0) (b : Nat) (hb : b = 20 ∨ b = 23) : ∀ (n : Nat) (x1 x3 x4 : Int) (mem : hMem), hv_R X 7 0 0 (hv_QX X 1 0 0) (L_X0_mix_87 b n x1 x3 x4 mem) mem [] [(0, .ref (hv_ad X b)), (1, .int (hv_I x1)), (3, .int (hv_I x3)), (4, .int (hv_I x4))] [] 87 := by
  intro n
  induction n with
  | zero => intros; exact hv_none
  | succ n ih => exact gB_X0_mix_87 hc b hb _ ih
def J_X0_mix_74 (b : Nat) (R15 : Int → Int → Int → Int → Int → hMem → hRs) (x1 x2 x3 x4 x5 x6 : Int) (mem : hMem) : hRs := hv_b (f_X0_append b x1 x6 mem) (fun r1 m2 => hv_set (x5 + 1) (fun y3 => R15 x1 x2 x3 x4 y3 m2))
set_option maxRecDepth 100000 in
theorem g_X0_mix_74 {X : hv_X} (hc : hv_C X cX0_mix 7 RX0 (none) 3 0 0) (b : Nat) (hb : b = 20 ∨ b = 23) (R15 : Int → Int → Int → Int → Int → hMem → hRs) (hR15 : ∀ (x1 x2 x3 x4 x5 : Int) (mem : hMem), hv_R X 7 0 0 (hv_QX X 1 0 0) (R15 x1 x2 x3 x4 x5 mem) mem [] [(0, .ref (hv_ad X b)), (1, .int (hv_I x1)), (2, .int (hv_I x2)), (3, .int (hv_I x3)), (4, .int (hv_I x4)), (5, .int (hv_I x5))] [] 15) (x1 x2 x3 x4 x5 x6 : Int) (mem : hMem) : hv_R X 7 0 0 (hv_QX X 1 0 0) (J_X0_mix_74 b R15 x1 x2 x3 x4 x5 x6 mem) mem [] [(0, .ref (hv_ad X b)), (1, .int (hv_I x1)), (2, .int (hv_I x2)), (3, .int (hv_I x3)), (4, .int (hv_I x4)), (5, .int (hv_I x5)), (6, .int (hv_I x6))] [] 74 := by
  unfold J_X0_mix_74
  refine hv_aload_n hc dX0_mix_74 rfl (hv_m 0 rfl) ?_
  refine hv_iload_n hc dX0_mix_75 rfl (hv_m 1 rfl) ?_
  refine hv_iload hc dX0_mix_76 (hv_m 6 rfl) ?_
  refine hv_callVv hc (c_X0_append b hb x1 x6 mem) yv_X0_append tw_645 (sh_X0 hb) rfl rfl rfl rfl (Nat.le_of_ble_eq_true rfl) (Nat.le_of_ble_eq_true rfl) (Nat.zero_le _) (Nat.zero_le _) dX0_mix_78 (fun r1 m2 => ?_)
  refine hv_iinc_s (lvf := fun y3 => [(5, .int (hv_I y3)), (0, .ref (hv_ad X b)), (1, .int (hv_I x1)), (2, .int (hv_I x2)), (3, .int (hv_I x3)), (4, .int (hv_I x4)), (6, .int (hv_I x6))]) hc dX0_mix_81 (by decide) (hv_m 5 rfl) (fun _ => rfl) (fun y3 => ?_)
  refine hv_goto (tgt := 15) hc dX0_mix_84 (by decide) ?_
  exact hv_pick [1, 2, 3, 4, 5, 0] rfl (hR15 x1 x2 x3 x4 y3 m2)
def B_X0_mix_34 (b : Nat) (R15 : Int → Int → Int → Int → Int → hMem → hRs) (R34 : Int → Int → Int → Int → Int → Int → hMem → hRs) (x1 x2 x3 x4 x5 x6 : Int) (mem : hMem) : hRs := hv_b (f_X0_sizeOf b x3 mem) (fun r1 m2 => hv_lt x4 r1 (hv_b (f_X0_turnAt b x3 x4 m2) (fun r3 m4 => hv_lt r3 x6 (hv_b (f_X0_turnAt b x3 x4 m4) (fun r5 m6 => hv_b (f_X0_append b x1 r5 m6) (fun r7 m8 => hv_set (x4 + 1) (fun y9 => R34 x1 x2 x3 y9 x5 x6 m8)))) (J_X0_mix_74 b R15 x1 x2 x3 x4 x5 x6 m4))) (J_X0_mix_74 b R15 x1 x2 x3 x4 x5 x6 m2))
def L_X0_mix_34 (b : Nat) (R15 : Int → Int → Int → Int → Int → hMem → hRs) : Nat → Int → Int → Int → Int → Int → Int → hMem → hRs
  | 0 => fun _ _ _ _ _ _ _ => none
  | n + 1 => B_X0_mix_34 b R15 (L_X0_mix_34 b R15 n)
set_option maxRecDepth 100000 in
theorem gB_X0_mix_34 {X : hv_X} (hc : hv_C X cX0_mix 7 RX0 (none) 3 0 0) (b : Nat) (hb : b = 20 ∨ b = 23) (R15 : Int → Int → Int → Int → Int → hMem → hRs) (hR15 : ∀ (x1 x2 x3 x4 x5 : Int) (mem : hMem), hv_R X 7 0 0 (hv_QX X 1 0 0) (R15 x1 x2 x3 x4 x5 mem) mem [] [(0, .ref (hv_ad X b)), (1, .int (hv_I x1)), (2, .int (hv_I x2)), (3, .int (hv_I x3)), (4, .int (hv_I x4)), (5, .int (hv_I x5))] [] 15) (R34 : Int → Int → Int → Int → Int → Int → hMem → hRs) (hR34 : ∀ (x1 x2 x3 x4 x5 x6 : Int) (mem : hMem), hv_R X 7 0 0 (hv_QX X 1 0 0) (R34 x1 x2 x3 x4 x5 x6 mem) mem [] [(0, .ref (hv_ad X b)), (1, .int (hv_I x1)), (2, .int (hv_I x2)), (3, .int (hv_I x3)), (4, .int (hv_I x4)), (5, .int (hv_I x5)), (6, .int (hv_I x6))] [] 34) (x1 x2 x3 x4 x5 x6 : Int) (mem : hMem) : hv_R X 7 0 0 (hv_QX X 1 0 0) (B_X0_mix_34 b R15 R34 x1 x2 x3 x4 x5 x6 mem) mem [] [(0, .ref (hv_ad X b)), (1, .int (hv_I x1)), (2, .int (hv_I x2)), (3, .int (hv_I x3)), (4, .int (hv_I x4)), (5, .int (hv_I x5)), (6, .int (hv_I x6))] [] 34 := by
  unfold B_X0_mix_34
  refine hv_iload hc dX0_mix_34 (hv_m 4 rfl) ?_
  refine hv_aload_n hc dX0_mix_36 rfl (hv_m 0 rfl) ?_
  refine hv_iload_n hc dX0_mix_37 rfl (hv_m 3 rfl) ?_
  refine hv_callVi hc (c_X0_sizeOf b hb x3 mem) yv_X0_sizeOf tw_615 (sh_X0 hb) rfl rfl rfl rfl (Nat.le_of_ble_eq_true rfl) (Nat.le_of_ble_eq_true rfl) (Nat.zero_le _) (Nat.zero_le _) dX0_mix_38 (fun r1 m2 => ?_)
  refine hv_icmp_ge (tgt := 74) hc dX0_mix_41 (by decide) ?_ ?_
  · exact hv_pick [0, 1, 2, 3, 4, 5, 6] rfl (g_X0_mix_74 hc b hb R15 hR15 x1 x2 x3 x4 x5 x6 m2)
  · refine hv_aload_n hc dX0_mix_44 rfl (hv_m 0 rfl) ?_
    refine hv_iload_n hc dX0_mix_45 rfl (hv_m 3 rfl) ?_
    refine hv_iload hc dX0_mix_46 (hv_m 4 rfl) ?_
    refine hv_callVi hc (c_X0_turnAt b hb x3 x4 m2) yv_X0_turnAt tw_620 (sh_X0 hb) rfl rfl rfl rfl (Nat.le_of_ble_eq_true rfl) (Nat.le_of_ble_eq_true rfl) (Nat.zero_le _) (Nat.zero_le _) dX0_mix_48 (fun r3 m4 => ?_)
    refine hv_iload hc dX0_mix_51 (hv_m 6 rfl) ?_
    refine hv_icmp_ge (tgt := 74) hc dX0_mix_53 (by decide) ?_ ?_
    · exact hv_pick [0, 1, 2, 3, 4, 5, 6] rfl (g_X0_mix_74 hc b hb R15 hR15 x1 x2 x3 x4 x5 x6 m4)
    · refine hv_aload_n hc dX0_mix_56 rfl (hv_m 0 rfl) ?_
      refine hv_iload_n hc dX0_mix_57 rfl (hv_m 1 rfl) ?_
      refine hv_aload_n hc dX0_mix_58 rfl (hv_m 0 rfl) ?_
      refine hv_iload_n hc dX0_mix_59 rfl (hv_m 3 rfl) ?_
      refine hv_iload hc dX0_mix_60 (hv_m 4 rfl) ?_
      refine hv_callVi hc (c_X0_turnAt b hb x3 x4 m4) yv_X0_turnAt tw_620 (sh_X0 hb) rfl rfl rfl rfl (Nat.le_of_ble_eq_true rfl) (Nat.le_of_ble_eq_true rfl) (Nat.zero_le _) (Nat.zero_le _) dX0_mix_62 (fun r5 m6 => ?_)
      refine hv_callVv hc (c_X0_append b hb x1 r5 m6) yv_X0_append tw_645 (sh_X0 hb) rfl rfl rfl rfl (Nat.le_of_ble_eq_true rfl) (Nat.le_of_ble_eq_true rfl) (Nat.zero_le _) (Nat.zero_le _) dX0_mix_65 (fun r7 m8 => ?_)
      refine hv_iinc_s (lvf := fun y9 => [(4, .int (hv_I y9)), (0, .ref (hv_ad X b)), (1, .int (hv_I x1)), (2, .int (hv_I x2)), (3, .int (hv_I x3)), (5, .int (hv_I x5)), (6, .int (hv_I x6))]) hc dX0_mix_68 (by decide) (hv_m 4 rfl) (fun _ => rfl) (fun y9 => ?_)
      refine hv_goto (tgt := 34) hc dX0_mix_71 (by decide) ?_
      exact hv_pick [1, 2, 3, 4, 0, 5, 6] rfl (hR34 x1 x2 x3 y9 x5 x6 m8)
theorem g_X0_mix_34 {X : hv_X} (hc : hv_C X cX0_mix 7 RX0 (none) 3 0 0) (b : Nat) (hb : b = 20 ∨ b = 23) (R15 : Int → Int → Int → Int → Int → hMem → hRs) (hR15 : ∀ (x1 x2 x3 x4 x5 : Int) (mem : hMem), hv_R X 7 0 0 (hv_QX X 1 0 0) (R15 x1 x2 x3 x4 x5 mem) mem [] [(0, .ref (hv_ad X b)), (1, .int (hv_I x1)), (2, .int (hv_I x2)), (3, .int (hv_I x3)), (4, .int (hv_I x4)), (5, .int (hv_I x5))] [] 15) : ∀ (n : Nat) (x1 x2 x3 x4 x5 x6 : Int) (mem : hMem), hv_R X 7 0 0 (hv_QX X 1 0 0) (L_X0_mix_34 b R15 n x1 x2 x3 x4 x5 x6 mem) mem [] [(0, .ref (hv_ad X b)), (1, .int (hv_I x1)), (2, .int (hv_I x2)), (3, .int (hv_I x3)), (4, .int (hv_I x4)), (5, .int (hv_I x5)), (6, .int (hv_I x6))] [] 34 := by
  intro n
  induction n with
  | zero => intros; exact hv_none
  | succ n ih => exact gB_X0_mix_34 hc b hb R15 hR15 _ ih
def B_X0_mix_15 (b : Nat) (R15 : Int → Int → Int → Int → Int → hMem → hRs) (x1 x2 x3 x4 x5 : Int) (mem : hMem) : hRs := hv_b (f_X0_sizeOf b x2 mem) (fun r1 m2 => hv_lt x5 r1 (hv_b (f_X0_turnAt b x2 x5 m2) (fun r3 m4 => L_X0_mix_34 b R15 hv_FU x1 x2 x3 x4 x5 r3 m4)) (L_X0_mix_87 b hv_FU x1 x3 x4 m2))
def L_X0_mix_15 (b : Nat) : Nat → Int → Int → Int → Int → Int → hMem → hRs
  | 0 => fun _ _ _ _ _ _ => none
  | n + 1 => B_X0_mix_15 b (L_X0_mix_15 b n)
set_option maxRecDepth 100000 in
theorem gB_X0_mix_15 {X : hv_X} (hc : hv_C X cX0_mix 7 RX0 (none) 3 0 0) (b : Nat) (hb : b = 20 ∨ b = 23) (R15 : Int → Int → Int → Int → Int → hMem → hRs) (hR15 : ∀ (x1 x2 x3 x4 x5 : Int) (mem : hMem), hv_R X 7 0 0 (hv_QX X 1 0 0) (R15 x1 x2 x3 x4 x5 mem) mem [] [(0, .ref (hv_ad X b)), (1, .int (hv_I x1)), (2, .int (hv_I x2)), (3, .int (hv_I x3)), (4, .int (hv_I x4)), (5, .int (hv_I x5))] [] 15) (x1 x2 x3 x4 x5 : Int) (mem : hMem) : hv_R X 7 0 0 (hv_QX X 1 0 0) (B_X0_mix_15 b R15 x1 x2 x3 x4 x5 mem) mem [] [(0, .ref (hv_ad X b)), (1, .int (hv_I x1)), (2, .int (hv_I x2)), (3, .int (hv_I x3)), (4, .int (hv_I x4)), (5, .int (hv_I x5))] [] 15 := by
  unfold B_X0_mix_15
  refine hv_iload hc dX0_mix_15 (hv_m 5 rfl) ?_
  refine hv_aload_n hc dX0_mix_17 rfl (hv_m 0 rfl) ?_
  refine hv_iload_n hc dX0_mix_18 rfl (hv_m 2 rfl) ?_
  refine hv_callVi hc (c_X0_sizeOf b hb x2 mem) yv_X0_sizeOf tw_615 (sh_X0 hb) rfl rfl rfl rfl (Nat.le_of_ble_eq_true rfl) (Nat.le_of_ble_eq_true rfl) (Nat.zero_le _) (Nat.zero_le _) dX0_mix_19 (fun r1 m2 => ?_)
  refine hv_icmp_ge (tgt := 87) hc dX0_mix_22 (by decide) ?_ ?_
  · exact hv_pick [0, 1, 3, 4] rfl (g_X0_mix_87 hc b hb hv_FU x1 x3 x4 m2)
  · refine hv_aload_n hc dX0_mix_25 rfl (hv_m 0 rfl) ?_
    refine hv_iload_n hc dX0_mix_26 rfl (hv_m 2 rfl) ?_
    refine hv_iload hc dX0_mix_27 (hv_m 5 rfl) ?_
    refine hv_callVi hc (c_X0_turnAt b hb x2 x5 m2) yv_X0_turnAt tw_620 (sh_X0 hb) rfl rfl rfl rfl (Nat.le_of_ble_eq_true rfl) (Nat.le_of_ble_eq_true rfl) (Nat.zero_le _) (Nat.zero_le _) dX0_mix_29 (fun r3 m4 => ?_)
    refine hv_istore (lv' := [(6, .int (hv_I r3)), (0, .ref (hv_ad X b)), (1, .int (hv_I x1)), (2, .int (hv_I x2)), (3, .int (hv_I x3)), (4, .int (hv_I x4)), (5, .int (hv_I x5))]) hc dX0_mix_32 (by decide) rfl ?_
    exact hv_pick [1, 2, 3, 4, 5, 6, 0] rfl (g_X0_mix_34 hc b hb R15 hR15 hv_FU x1 x2 x3 x4 x5 r3 m4)
theorem g_X0_mix_15 {X : hv_X} (hc : hv_C X cX0_mix 7 RX0 (none) 3 0 0) (b : Nat) (hb : b = 20 ∨ b = 23) : ∀ (n : Nat) (x1 x2 x3 x4 x5 : Int) (mem : hMem), hv_R X 7 0 0 (hv_QX X 1 0 0) (L_X0_mix_15 b n x1 x2 x3 x4 x5 mem) mem [] [(0, .ref (hv_ad X b)), (1, .int (hv_I x1)), (2, .int (hv_I x2)), (3, .int (hv_I x3)), (4, .int (hv_I x4)), (5, .int (hv_I x5))] [] 15 := by
  intro n
  induction n with
  | zero => intros; exact hv_none
  | succ n ih => exact gB_X0_mix_15 hc b hb _ ih
def f_X0_mix (b : Nat) (x1 x2 x3 : Int) (mem : hMem) : hRs := hv_b (f_X10_set (b + 2) 30 x1 0 mem) (fun r1 m2 => L_X0_mix_15 b hv_FU x1 x2 x3 0 0 m2)
set_option maxRecDepth 100000 in
set_option maxHeartbeats 4000000 in
theorem c_X0_mix (b : Nat) (hb : b = 20 ∨ b = 23) (x1 x2 x3 : Int) (mem : hMem) : hv_Met 3 0 0 1 yX0_mix cX0_mix 7 (none) (fun ad _ _ => [.ref (ad b), .int (hv_I x1), .int (hv_I x2), .int (hv_I x3)]) mem (f_X0_mix b x1 x2 x3 mem) := by
  refine hv_start (by decide +kernel) (fun _ _ _ => Nat.le_of_ble_eq_true rfl) ?_
  intro X hc
  have hc : hv_C X cX0_mix 7 RX0 (none) 3 0 0 := hc
  show hv_R X 7 0 0 (hv_QX X 1 0 0) (f_X0_mix b x1 x2 x3 mem) mem [] [(0, .ref (hv_ad X b)), (1, .int (hv_I x1)), (2, .int (hv_I x2)), (3, .int (hv_I x3))] [] 0
  unfold f_X0_mix
  refine hv_aload_n hc dX0_mix_0 rfl (hv_m 0 rfl) ?_
  refine hv_getR hc fl_X0_15 (sh_X0 hb) rfl dX0_mix_1 ?_
  refine hv_iload_n hc dX0_mix_4 rfl (hv_m 1 rfl) ?_
  refine hv_iconst hc dX0_mix_5 ?_
  refine hv_callSNv hc (c_X10_set (b + 2) 30 (sh_X0_2 hb) (Nat.le_of_ble_eq_true rfl) x1 0 mem) ys_X10_set nl_14 rfl rfl rfl (Nat.le_of_ble_eq_true rfl) (Nat.le_of_ble_eq_true rfl) (Nat.zero_le _) (Nat.zero_le _) dX0_mix_6 (fun r1 m2 => ?_)
  refine hv_iconst hc dX0_mix_9 ?_
  refine hv_istore (lv' := [(4, .int (hv_I 0)), (0, .ref (hv_ad X b)), (1, .int (hv_I x1)), (2, .int (hv_I x2)), (3, .int (hv_I x3))]) hc dX0_mix_10 (by decide) rfl ?_
  refine hv_iconst hc dX0_mix_12 ?_
  refine hv_istore (lv' := [(5, .int (hv_I 0)), (4, .int (hv_I 0)), (0, .ref (hv_ad X b)), (1, .int (hv_I x1)), (2, .int (hv_I x2)), (3, .int (hv_I x3))]) hc dX0_mix_13 (by decide) rfl ?_
  exact hv_pick [2, 3, 4, 5, 1, 0] rfl (g_X0_mix_15 hc b hb hv_FU x1 x2 x3 0 0 m2)
def B_X0_copy_12 (b : Nat) (R12 : Int → Int → Int → hMem → hRs) (x1 x2 x4 : Int) (mem : hMem) : hRs := hv_b (f_X0_sizeOf b x2 mem) (fun r1 m2 => hv_lt x4 r1 (hv_b (f_X0_turnAt b x2 x4 m2) (fun r3 m4 => hv_b (f_X0_append b x1 r3 m4) (fun r5 m6 => hv_set (x4 + 1) (fun y7 => R12 x1 x2 y7 m6)))) (hv_ret 0 m2))
def L_X0_copy_12 (b : Nat) : Nat → Int → Int → Int → hMem → hRs
  | 0 => fun _ _ _ _ => none
  | n + 1 => B_X0_copy_12 b (L_X0_copy_12 b n)
set_option maxRecDepth 100000 in
theorem gB_X0_copy_12 {X : hv_X} (hc : hv_C X cX0_copy 5 RX0 (none) 3 0 0) (b : Nat) (hb : b = 20 ∨ b = 23) (R12 : Int → Int → Int → hMem → hRs) (hR12 : ∀ (x1 x2 x4 : Int) (mem : hMem), hv_R X 5 0 0 (hv_QX X 1 0 0) (R12 x1 x2 x4 mem) mem [] [(0, .ref (hv_ad X b)), (1, .int (hv_I x1)), (2, .int (hv_I x2)), (4, .int (hv_I x4))] [] 12) (x1 x2 x4 : Int) (mem : hMem) : hv_R X 5 0 0 (hv_QX X 1 0 0) (B_X0_copy_12 b R12 x1 x2 x4 mem) mem [] [(0, .ref (hv_ad X b)), (1, .int (hv_I x1)), (2, .int (hv_I x2)), (4, .int (hv_I x4))] [] 12 := by
  unfold B_X0_copy_12
  refine hv_iload hc dX0_copy_12 (hv_m 3 rfl) ?_
  refine hv_aload_n hc dX0_copy_14 rfl (hv_m 0 rfl) ?_
  refine hv_iload_n hc dX0_copy_15 rfl (hv_m 2 rfl) ?_
  refine hv_callVi hc (c_X0_sizeOf b hb x2 mem) yv_X0_sizeOf tw_615 (sh_X0 hb) rfl rfl rfl rfl (Nat.le_of_ble_eq_true rfl) (Nat.le_of_ble_eq_true rfl) (Nat.zero_le _) (Nat.zero_le _) dX0_copy_16 (fun r1 m2 => ?_)
  refine hv_icmp_ge (tgt := 40) hc dX0_copy_19 (by decide) ?_ ?_
  · exact hv_vret hc dX0_copy_40
  · refine hv_aload_n hc dX0_copy_22 rfl (hv_m 0 rfl) ?_
    refine hv_iload_n hc dX0_copy_23 rfl (hv_m 1 rfl) ?_
    refine hv_aload_n hc dX0_copy_24 rfl (hv_m 0 rfl) ?_
    refine hv_iload_n hc dX0_copy_25 rfl (hv_m 2 rfl) ?_
    refine hv_iload hc dX0_copy_26 (hv_m 3 rfl) ?_
    refine hv_callVi hc (c_X0_turnAt b hb x2 x4 m2) yv_X0_turnAt tw_620 (sh_X0 hb) rfl rfl rfl rfl (Nat.le_of_ble_eq_true rfl) (Nat.le_of_ble_eq_true rfl) (Nat.zero_le _) (Nat.zero_le _) dX0_copy_28 (fun r3 m4 => ?_)
    refine hv_callVv hc (c_X0_append b hb x1 r3 m4) yv_X0_append tw_645 (sh_X0 hb) rfl rfl rfl rfl (Nat.le_of_ble_eq_true rfl) (Nat.le_of_ble_eq_true rfl) (Nat.zero_le _) (Nat.zero_le _) dX0_copy_31 (fun r5 m6 => ?_)
    refine hv_iinc_s (lvf := fun y7 => [(4, .int (hv_I y7)), (0, .ref (hv_ad X b)), (1, .int (hv_I x1)), (2, .int (hv_I x2))]) hc dX0_copy_34 (by decide) (hv_m 3 rfl) (fun _ => rfl) (fun y7 => ?_)
    refine hv_goto (tgt := 12) hc dX0_copy_37 (by decide) ?_
    exact hv_pick [1, 2, 3, 0] rfl (hR12 x1 x2 y7 m6)
theorem g_X0_copy_12 {X : hv_X} (hc : hv_C X cX0_copy 5 RX0 (none) 3 0 0) (b : Nat) (hb : b = 20 ∨ b = 23) : ∀ (n : Nat) (x1 x2 x4 : Int) (mem : hMem), hv_R X 5 0 0 (hv_QX X 1 0 0) (L_X0_copy_12 b n x1 x2 x4 mem) mem [] [(0, .ref (hv_ad X b)), (1, .int (hv_I x1)), (2, .int (hv_I x2)), (4, .int (hv_I x4))] [] 12 := by
  intro n
  induction n with
  | zero => intros; exact hv_none
  | succ n ih => exact gB_X0_copy_12 hc b hb _ ih
def f_X0_copy (b : Nat) (x1 x2 x3 : Int) (mem : hMem) : hRs := hv_b (f_X10_set (b + 2) 30 x1 0 mem) (fun r1 m2 => L_X0_copy_12 b hv_FU x1 x2 x3 m2)
set_option maxRecDepth 100000 in
set_option maxHeartbeats 4000000 in
theorem c_X0_copy (b : Nat) (hb : b = 20 ∨ b = 23) (x1 x2 x3 : Int) (mem : hMem) : hv_Met 3 0 0 1 yX0_copy cX0_copy 5 (none) (fun ad _ _ => [.ref (ad b), .int (hv_I x1), .int (hv_I x2), .int (hv_I x3)]) mem (f_X0_copy b x1 x2 x3 mem) := by
  refine hv_start (by decide +kernel) (fun _ _ _ => Nat.le_of_ble_eq_true rfl) ?_
  intro X hc
  have hc : hv_C X cX0_copy 5 RX0 (none) 3 0 0 := hc
  show hv_R X 5 0 0 (hv_QX X 1 0 0) (f_X0_copy b x1 x2 x3 mem) mem [] [(0, .ref (hv_ad X b)), (1, .int (hv_I x1)), (2, .int (hv_I x2)), (3, .int (hv_I x3))] [] 0
  unfold f_X0_copy
  refine hv_aload_n hc dX0_copy_0 rfl (hv_m 0 rfl) ?_
  refine hv_getR hc fl_X0_15 (sh_X0 hb) rfl dX0_copy_1 ?_
  refine hv_iload_n hc dX0_copy_4 rfl (hv_m 1 rfl) ?_
  refine hv_iconst hc dX0_copy_5 ?_
  refine hv_callSNv hc (c_X10_set (b + 2) 30 (sh_X0_2 hb) (Nat.le_of_ble_eq_true rfl) x1 0 mem) ys_X10_set nl_14 rfl rfl rfl (Nat.le_of_ble_eq_true rfl) (Nat.le_of_ble_eq_true rfl) (Nat.zero_le _) (Nat.zero_le _) dX0_copy_6 (fun r1 m2 => ?_)
  refine hv_iload_n hc dX0_copy_9 rfl (hv_m 3 rfl) ?_
  refine hv_istore (lv' := [(4, .int (hv_I x3)), (0, .ref (hv_ad X b)), (1, .int (hv_I x1)), (2, .int (hv_I x2)), (3, .int (hv_I x3))]) hc dX0_copy_10 (by decide) rfl ?_
  exact hv_pick [1, 2, 3, 0] rfl (g_X0_copy_12 hc b hb hv_FU x1 x2 x3 m2)
def f_X0_make (b : Nat) (x1 x2 x3 x4 x5 : Int) (mem : hMem) : hRs := hv_tsw x2 1 [hv_b (f_X0_copyWith b x1 x3 x5 mem) (fun r1 m2 => hv_ret 0 m2), hv_b (f_X0_mix b x1 x3 x4 mem) (fun r3 m4 => hv_ret 0 m4), hv_b (f_X0_copy b x1 x3 1 mem) (fun r5 m6 => hv_ret 0 m6)] (hv_b (f_X10_set (b + 2) 30 x1 0 mem) (fun r7 m8 => hv_ret 0 m8))
set_option maxRecDepth 100000 in
set_option maxHeartbeats 4000000 in
theorem c_X0_make (b : Nat) (hb : b = 20 ∨ b = 23) (x1 x2 x3 x4 x5 : Int) (mem : hMem) : hv_Met 4 0 0 1 yX0_make cX0_make 6 (none) (fun ad _ _ => [.ref (ad b), .int (hv_I x1), .int (hv_I x2), .int (hv_I x3), .int (hv_I x4), .int (hv_I x5)]) mem (f_X0_make b x1 x2 x3 x4 x5 mem) := by
  refine hv_start (by decide +kernel) (fun _ _ _ => Nat.le_of_ble_eq_true rfl) ?_
  intro X hc
  have hc : hv_C X cX0_make 6 RX0 (none) 4 0 0 := hc
  show hv_R X 6 0 0 (hv_QX X 1 0 0) (f_X0_make b x1 x2 x3 x4 x5 mem) mem [] [(0, .ref (hv_ad X b)), (1, .int (hv_I x1)), (2, .int (hv_I x2)), (3, .int (hv_I x3)), (4, .int (hv_I x4)), (5, .int (hv_I x5))] [] 0
  unfold f_X0_make
  refine hv_iload_n hc dX0_make_0 rfl (hv_m 2 rfl) ?_
  refine hv_tswitch (tgts := [28, 39, 50]) (tD := 60) hc dX0_make_1 rfl (by decide) (by decide) ⟨?_, ?_, ?_, trivial⟩ ?_
  · refine hv_aload_n hc dX0_make_28 rfl (hv_m 0 rfl) ?_
    refine hv_iload_n hc dX0_make_29 rfl (hv_m 1 rfl) ?_
    refine hv_iload_n hc dX0_make_30 rfl (hv_m 3 rfl) ?_
    refine hv_iload hc dX0_make_31 (hv_m 5 rfl) ?_
    refine hv_callVv hc (c_X0_copyWith b hb x1 x3 x5 mem) yv_X0_copyWith tw_640 (sh_X0 hb) rfl rfl rfl rfl (Nat.le_of_ble_eq_true rfl) (Nat.le_of_ble_eq_true rfl) (Nat.zero_le _) (Nat.zero_le _) dX0_make_33 (fun r1 m2 => ?_)
    refine hv_goto (tgt := 69) hc dX0_make_36 (by decide) ?_
    exact hv_vret hc dX0_make_69
  · refine hv_aload_n hc dX0_make_39 rfl (hv_m 0 rfl) ?_
    refine hv_iload_n hc dX0_make_40 rfl (hv_m 1 rfl) ?_
    refine hv_iload_n hc dX0_make_41 rfl (hv_m 3 rfl) ?_
    refine hv_iload hc dX0_make_42 (hv_m 4 rfl) ?_
    refine hv_callVv hc (c_X0_mix b hb x1 x3 x4 mem) yv_X0_mix tw_649 (sh_X0 hb) rfl rfl rfl rfl (Nat.le_of_ble_eq_true rfl) (Nat.le_of_ble_eq_true rfl) (Nat.zero_le _) (Nat.zero_le _) dX0_make_44 (fun r3 m4 => ?_)
    refine hv_goto (tgt := 69) hc dX0_make_47 (by decide) ?_
    exact hv_vret hc dX0_make_69
  · refine hv_aload_n hc dX0_make_50 rfl (hv_m 0 rfl) ?_
    refine hv_iload_n hc dX0_make_51 rfl (hv_m 1 rfl) ?_
    refine hv_iload_n hc dX0_make_52 rfl (hv_m 3 rfl) ?_
    refine hv_iconst hc dX0_make_53 ?_
    refine hv_callVv hc (c_X0_copy b hb x1 x3 1 mem) yv_X0_copy tw_653 (sh_X0 hb) rfl rfl rfl rfl (Nat.le_of_ble_eq_true rfl) (Nat.le_of_ble_eq_true rfl) (Nat.zero_le _) (Nat.zero_le _) dX0_make_54 (fun r5 m6 => ?_)
    refine hv_goto (tgt := 69) hc dX0_make_57 (by decide) ?_
    exact hv_vret hc dX0_make_69
  · refine hv_aload_n hc dX0_make_60 rfl (hv_m 0 rfl) ?_
    refine hv_getR hc fl_X0_15 (sh_X0 hb) rfl dX0_make_61 ?_
    refine hv_iload_n hc dX0_make_64 rfl (hv_m 1 rfl) ?_
    refine hv_iconst hc dX0_make_65 ?_
    refine hv_callSNv hc (c_X10_set (b + 2) 30 (sh_X0_2 hb) (Nat.le_of_ble_eq_true rfl) x1 0 mem) ys_X10_set nl_14 rfl rfl rfl (Nat.le_of_ble_eq_true rfl) (Nat.le_of_ble_eq_true rfl) (Nat.zero_le _) (Nat.zero_le _) dX0_make_66 (fun r7 m8 => ?_)
    exact hv_vret hc dX0_make_69
def f_X1_cells (b : Nat) (mem : hMem) : hRs := hv_ret (mem b 9) mem
set_option maxRecDepth 100000 in
set_option maxHeartbeats 4000000 in
theorem c_X1_cells (b : Nat) (hb : b = 27 ∨ b = 43) (mem : hMem) : hv_Met 0 0 0 0 yX1_cells cX1_cells 1 (some FieldType.int) (fun ad _ _ => [.ref (ad b)]) mem (f_X1_cells b mem) := by
  refine hv_start (by decide +kernel) (fun _ _ _ => Nat.le_of_ble_eq_true rfl) ?_
  intro X hc
  have hc : hv_C X cX1_cells 1 RX1 (some FieldType.int) 0 0 0 := hc
  show hv_R X 1 0 0 (hv_QX X 0 0 0) (f_X1_cells b mem) mem [] [(0, .ref (hv_ad X b))] [] 0
  unfold f_X1_cells
  refine hv_aload_n hc dX1_cells_0 rfl (hv_m 0 rfl) ?_
  refine hv_getI hc fl_X1_39 (sh_X1 hb) rfl dX1_cells_1 ?_
  exact hv_iret hc dX1_cells_4
def f_X1_rows (b : Nat) (mem : hMem) : hRs := hv_ret (mem b 10) mem
set_option maxRecDepth 100000 in
set_option maxHeartbeats 4000000 in
theorem c_X1_rows (b : Nat) (hb : b = 27 ∨ b = 43) (mem : hMem) : hv_Met 0 0 0 0 yX1_rows cX1_rows 1 (some FieldType.int) (fun ad _ _ => [.ref (ad b)]) mem (f_X1_rows b mem) := by
  refine hv_start (by decide +kernel) (fun _ _ _ => Nat.le_of_ble_eq_true rfl) ?_
  intro X hc
  have hc : hv_C X cX1_rows 1 RX1 (some FieldType.int) 0 0 0 := hc
  show hv_R X 1 0 0 (hv_QX X 0 0 0) (f_X1_rows b mem) mem [] [(0, .ref (hv_ad X b))] [] 0
  unfold f_X1_rows
  refine hv_aload_n hc dX1_rows_0 rfl (hv_m 0 rfl) ?_
  refine hv_getI hc fl_X1_43 (sh_X1 hb) rfl dX1_rows_1 ?_
  exact hv_iret hc dX1_rows_4
def f_X1_cut (b : Nat) (x1 x2 : Int) (mem : hMem) : hRs := hv_put mem b 9 x1 (fun m1 => hv_put m1 b 10 x2 (fun m2 => hv_ret 0 m2))
set_option maxRecDepth 100000 in
set_option maxHeartbeats 4000000 in
theorem c_X1_cut (b : Nat) (hb : b = 27 ∨ b = 43) (x1 x2 : Int) (mem : hMem) : hv_Met 0 0 0 1 yX1_cut cX1_cut 3 (none) (fun ad _ _ => [.ref (ad b), .int (hv_I x1), .int (hv_I x2)]) mem (f_X1_cut b x1 x2 mem) := by
  refine hv_start (by decide +kernel) (fun _ _ _ => Nat.le_of_ble_eq_true rfl) ?_
  intro X hc
  have hc : hv_C X cX1_cut 3 RX1 (none) 0 0 0 := hc
  show hv_R X 3 0 0 (hv_QX X 1 0 0) (f_X1_cut b x1 x2 mem) mem [] [(0, .ref (hv_ad X b)), (1, .int (hv_I x1)), (2, .int (hv_I x2))] [] 0
  unfold f_X1_cut
  refine hv_aload_n hc dX1_cut_0 rfl (hv_m 0 rfl) ?_
  refine hv_iload_n hc dX1_cut_1 rfl (hv_m 1 rfl) ?_
  refine hv_putI hc fp_X1_39 (sh_X1 hb) rfl dX1_cut_2 (fun m1 => ?_)
  refine hv_aload_n hc dX1_cut_5 rfl (hv_m 0 rfl) ?_
  refine hv_iload_n hc dX1_cut_6 rfl (hv_m 2 rfl) ?_
  refine hv_putI hc fp_X1_43 (sh_X1 hb) rfl dX1_cut_7 (fun m2 => ?_)
  exact hv_vret hc dX1_cut_10
def f_X1_row (b : Nat) (x1 x2 : Int) (mem : hMem) : hRs := hv_lt (mem b 10) 1 (hv_ret 0 mem) (hv_lt (mem b 10) 2592 (hv_ast mem (b + 8) 2592 (mem b 10) x1 (fun m1 => hv_ast m1 (b + 9) 2592 (m1 b 10) x2 (fun m2 => hv_put m2 b 10 ((m2 b 10) + 1) (fun m3 => hv_ret ((m3 b 10) - 1) m3)))) (hv_ret 0 mem))
set_option maxRecDepth 100000 in
set_option maxHeartbeats 4000000 in
theorem c_X1_row (b : Nat) (hb : b = 27 ∨ b = 43) (x1 x2 : Int) (mem : hMem) : hv_Met 0 0 0 0 yX1_row cX1_row 3 (some FieldType.int) (fun ad _ _ => [.ref (ad b), .int (hv_I x1), .int (hv_I x2)]) mem (f_X1_row b x1 x2 mem) := by
  refine hv_start (by decide +kernel) (fun _ _ _ => Nat.le_of_ble_eq_true rfl) ?_
  intro X hc
  have hc : hv_C X cX1_row 3 RX1 (some FieldType.int) 0 0 0 := hc
  show hv_R X 3 0 0 (hv_QX X 0 0 0) (f_X1_row b x1 x2 mem) mem [] [(0, .ref (hv_ad X b)), (1, .int (hv_I x1)), (2, .int (hv_I x2))] [] 0
  unfold f_X1_row
  refine hv_aload_n hc dX1_row_0 rfl (hv_m 0 rfl) ?_
  refine hv_getI hc fl_X1_43 (sh_X1 hb) rfl dX1_row_1 ?_
  refine hv_iconst hc dX1_row_4 ?_
  refine hv_icmp_lt (tgt := 18) hc dX1_row_5 (by decide) ?_ ?_
  · refine hv_iconst hc dX1_row_18 ?_
    exact hv_iret hc dX1_row_19
  · refine hv_aload_n hc dX1_row_8 rfl (hv_m 0 rfl) ?_
    refine hv_getI hc fl_X1_43 (sh_X1 hb) rfl dX1_row_9 ?_
    refine hv_sipush hc dX1_row_12 (by decide) ?_
    refine hv_icmp_lt (tgt := 20) hc dX1_row_15 (by decide) ?_ ?_
    · refine hv_aload_n hc dX1_row_20 rfl (hv_m 0 rfl) ?_
      refine hv_getR hc fl_X1_33 (sh_X1 hb) rfl dX1_row_21 ?_
      refine hv_aload_n hc dX1_row_24 rfl (hv_m 0 rfl) ?_
      refine hv_getI hc fl_X1_43 (sh_X1 hb) rfl dX1_row_25 ?_
      refine hv_iload_n hc dX1_row_28 rfl (hv_m 1 rfl) ?_
      refine hv_iastore hc (sh_X1_8 hb) (Nat.le_of_ble_eq_true rfl) dX1_row_29 (fun m1 => ?_)
      refine hv_aload_n hc dX1_row_30 rfl (hv_m 0 rfl) ?_
      refine hv_getR hc fl_X1_36 (sh_X1 hb) rfl dX1_row_31 ?_
      refine hv_aload_n hc dX1_row_34 rfl (hv_m 0 rfl) ?_
      refine hv_getI hc fl_X1_43 (sh_X1 hb) rfl dX1_row_35 ?_
      refine hv_iload_n hc dX1_row_38 rfl (hv_m 2 rfl) ?_
      refine hv_iastore hc (sh_X1_9 hb) (Nat.le_of_ble_eq_true rfl) dX1_row_39 (fun m2 => ?_)
      refine hv_aload_n hc dX1_row_40 rfl (hv_m 0 rfl) ?_
      refine hv_dup hc dX1_row_41 rfl ?_
      refine hv_getI hc fl_X1_43 (sh_X1 hb) rfl dX1_row_42 ?_
      refine hv_iconst hc dX1_row_45 ?_
      refine hv_iadd hc dX1_row_46 ?_
      refine hv_putI hc fp_X1_43 (sh_X1 hb) rfl dX1_row_47 (fun m3 => ?_)
      refine hv_aload_n hc dX1_row_50 rfl (hv_m 0 rfl) ?_
      refine hv_getI hc fl_X1_43 (sh_X1 hb) rfl dX1_row_51 ?_
      refine hv_iconst hc dX1_row_54 ?_
      refine hv_isub hc dX1_row_55 ?_
      exact hv_iret hc dX1_row_56
    · refine hv_iconst hc dX1_row_18 ?_
      exact hv_iret hc dX1_row_19
def f_X1_firstOf (b : Nat) (x1 : Int) (mem : hMem) : hRs := hv_lt x1 0 (hv_ret 0 mem) (hv_lt x1 2592 (hv_ald mem (b + 8) 2592 x1 (fun v1 => hv_ret v1 mem)) (hv_ret 0 mem))
set_option maxRecDepth 100000 in
set_option maxHeartbeats 4000000 in
theorem c_X1_firstOf (b : Nat) (hb : b = 27 ∨ b = 43) (x1 : Int) (mem : hMem) : hv_Met 0 0 0 0 yX1_firstOf cX1_firstOf 2 (some FieldType.int) (fun ad _ _ => [.ref (ad b), .int (hv_I x1)]) mem (f_X1_firstOf b x1 mem) := by
  refine hv_start (by decide +kernel) (fun _ _ _ => Nat.le_of_ble_eq_true rfl) ?_
  intro X hc
  have hc : hv_C X cX1_firstOf 2 RX1 (some FieldType.int) 0 0 0 := hc
  show hv_R X 2 0 0 (hv_QX X 0 0 0) (f_X1_firstOf b x1 mem) mem [] [(0, .ref (hv_ad X b)), (1, .int (hv_I x1))] [] 0
  unfold f_X1_firstOf
  refine hv_iload_n hc dX1_firstOf_0 rfl (hv_m 1 rfl) ?_
  refine hv_if_lt (tgt := 20) hc dX1_firstOf_1 (by decide) ?_ ?_
  · refine hv_iconst hc dX1_firstOf_20 ?_
    exact hv_iret hc dX1_firstOf_21
  · refine hv_iload_n hc dX1_firstOf_4 rfl (hv_m 1 rfl) ?_
    refine hv_sipush hc dX1_firstOf_5 (by decide) ?_
    refine hv_icmp_ge (tgt := 20) hc dX1_firstOf_8 (by decide) ?_ ?_
    · refine hv_iconst hc dX1_firstOf_20 ?_
      exact hv_iret hc dX1_firstOf_21
    · refine hv_aload_n hc dX1_firstOf_11 rfl (hv_m 0 rfl) ?_
      refine hv_getR hc fl_X1_33 (sh_X1 hb) rfl dX1_firstOf_12 ?_
      refine hv_iload_n hc dX1_firstOf_15 rfl (hv_m 1 rfl) ?_
      refine hv_iaload hc (sh_X1_8 hb) (Nat.le_of_ble_eq_true rfl) dX1_firstOf_16 (fun v1 => ?_)
      refine hv_goto (tgt := 21) hc dX1_firstOf_17 (by decide) ?_
      exact hv_iret hc dX1_firstOf_21
def f_X1_holdsOf (b : Nat) (x1 : Int) (mem : hMem) : hRs := hv_lt x1 0 (hv_ret 0 mem) (hv_lt x1 864 (hv_ald mem (b + 6) 864 x1 (fun v1 => hv_ret v1 mem)) (hv_ret 0 mem))
set_option maxRecDepth 100000 in
set_option maxHeartbeats 4000000 in
theorem c_X1_holdsOf (b : Nat) (hb : b = 27 ∨ b = 43) (x1 : Int) (mem : hMem) : hv_Met 0 0 0 0 yX1_holdsOf cX1_holdsOf 2 (some FieldType.int) (fun ad _ _ => [.ref (ad b), .int (hv_I x1)]) mem (f_X1_holdsOf b x1 mem) := by
  refine hv_start (by decide +kernel) (fun _ _ _ => Nat.le_of_ble_eq_true rfl) ?_
  intro X hc
  have hc : hv_C X cX1_holdsOf 2 RX1 (some FieldType.int) 0 0 0 := hc
  show hv_R X 2 0 0 (hv_QX X 0 0 0) (f_X1_holdsOf b x1 mem) mem [] [(0, .ref (hv_ad X b)), (1, .int (hv_I x1))] [] 0
  unfold f_X1_holdsOf
  refine hv_iload_n hc dX1_holdsOf_0 rfl (hv_m 1 rfl) ?_
  refine hv_if_lt (tgt := 20) hc dX1_holdsOf_1 (by decide) ?_ ?_
  · refine hv_iconst hc dX1_holdsOf_20 ?_
    exact hv_iret hc dX1_holdsOf_21
  · refine hv_iload_n hc dX1_holdsOf_4 rfl (hv_m 1 rfl) ?_
    refine hv_sipush hc dX1_holdsOf_5 (by decide) ?_
    refine hv_icmp_ge (tgt := 20) hc dX1_holdsOf_8 (by decide) ?_ ?_
    · refine hv_iconst hc dX1_holdsOf_20 ?_
      exact hv_iret hc dX1_holdsOf_21
    · refine hv_aload_n hc dX1_holdsOf_11 rfl (hv_m 0 rfl) ?_
      refine hv_getR hc fl_X1_27 (sh_X1 hb) rfl dX1_holdsOf_12 ?_
      refine hv_iload_n hc dX1_holdsOf_15 rfl (hv_m 1 rfl) ?_
      refine hv_iaload hc (sh_X1_6 hb) (Nat.le_of_ble_eq_true rfl) dX1_holdsOf_16 (fun v1 => ?_)
      refine hv_goto (tgt := 21) hc dX1_holdsOf_17 (by decide) ?_
      exact hv_iret hc dX1_holdsOf_21
def f_X1_deepOf (b : Nat) (x1 : Int) (mem : hMem) : hRs := hv_lt x1 0 (hv_ret 0 mem) (hv_lt x1 864 (hv_ald mem (b + 7) 864 x1 (fun v1 => hv_ret v1 mem)) (hv_ret 0 mem))
set_option maxRecDepth 100000 in
set_option maxHeartbeats 4000000 in
theorem c_X1_deepOf (b : Nat) (hb : b = 27 ∨ b = 43) (x1 : Int) (mem : hMem) : hv_Met 0 0 0 0 yX1_deepOf cX1_deepOf 2 (some FieldType.int) (fun ad _ _ => [.ref (ad b), .int (hv_I x1)]) mem (f_X1_deepOf b x1 mem) := by
  refine hv_start (by decide +kernel) (fun _ _ _ => Nat.le_of_ble_eq_true rfl) ?_
  intro X hc
  have hc : hv_C X cX1_deepOf 2 RX1 (some FieldType.int) 0 0 0 := hc
  show hv_R X 2 0 0 (hv_QX X 0 0 0) (f_X1_deepOf b x1 mem) mem [] [(0, .ref (hv_ad X b)), (1, .int (hv_I x1))] [] 0
  unfold f_X1_deepOf
  refine hv_iload_n hc dX1_deepOf_0 rfl (hv_m 1 rfl) ?_
  refine hv_if_lt (tgt := 20) hc dX1_deepOf_1 (by decide) ?_ ?_
  · refine hv_iconst hc dX1_deepOf_20 ?_
    exact hv_iret hc dX1_deepOf_21
  · refine hv_iload_n hc dX1_deepOf_4 rfl (hv_m 1 rfl) ?_
    refine hv_sipush hc dX1_deepOf_5 (by decide) ?_
    refine hv_icmp_ge (tgt := 20) hc dX1_deepOf_8 (by decide) ?_ ?_
    · refine hv_iconst hc dX1_deepOf_20 ?_
      exact hv_iret hc dX1_deepOf_21
    · refine hv_aload_n hc dX1_deepOf_11 rfl (hv_m 0 rfl) ?_
      refine hv_getR hc fl_X1_30 (sh_X1 hb) rfl dX1_deepOf_12 ?_
      refine hv_iload_n hc dX1_deepOf_15 rfl (hv_m 1 rfl) ?_
      refine hv_iaload hc (sh_X1_7 hb) (Nat.le_of_ble_eq_true rfl) dX1_deepOf_16 (fun v1 => ?_)
      refine hv_goto (tgt := 21) hc dX1_deepOf_17 (by decide) ?_
      exact hv_iret hc dX1_deepOf_21
def f_J9_max_7cf53 (x0 x1 : Int) (mem : hMem) : hRs := hv_lt x0 x1 (hv_ret x1 mem) (hv_ret x0 mem)
set_option maxRecDepth 100000 in
set_option maxHeartbeats 4000000 in
theorem c_J9_max_7cf53 (x0 x1 : Int) (mem : hMem) : hv_Met 0 0 0 0 yJ9_max_7cf53 cJ9_max_7cf53 2 (some FieldType.int) (fun _ _ _ => [.int (hv_I x0), .int (hv_I x1)]) mem (f_J9_max_7cf53 x0 x1 mem) := by
  refine hv_start (by decide +kernel) (fun _ _ _ => Nat.le_of_ble_eq_true rfl) ?_
  intro X hc
  have hc : hv_C X cJ9_max_7cf53 2 RJ9 (some FieldType.int) 0 0 0 := hc
  show hv_R X 2 0 0 (hv_QX X 0 0 0) (f_J9_max_7cf53 x0 x1 mem) mem [] [(0, .int (hv_I x0)), (1, .int (hv_I x1))] [] 0
  unfold f_J9_max_7cf53
  refine hv_iload_n hc dJ9_max_7cf53_0 rfl (hv_m 0 rfl) ?_
  refine hv_iload_n hc dJ9_max_7cf53_1 rfl (hv_m 1 rfl) ?_
  refine hv_icmp_lt (tgt := 9) hc dJ9_max_7cf53_2 (by decide) ?_ ?_
  · refine hv_iload_n hc dJ9_max_7cf53_9 rfl (hv_m 1 rfl) ?_
    exact hv_iret hc dJ9_max_7cf53_10
  · refine hv_iload_n hc dJ9_max_7cf53_5 rfl (hv_m 0 rfl) ?_
    refine hv_goto (tgt := 10) hc dJ9_max_7cf53_6 (by decide) ?_
    exact hv_iret hc dJ9_max_7cf53_10
def f_X1_restOf (b : Nat) (x1 : Int) (mem : hMem) : hRs := hv_lt x1 0 (hv_ret 0 mem) (hv_lt x1 2592 (hv_ald mem (b + 9) 2592 x1 (fun v1 => hv_ret v1 mem)) (hv_ret 0 mem))
set_option maxRecDepth 100000 in
set_option maxHeartbeats 4000000 in
theorem c_X1_restOf (b : Nat) (hb : b = 27 ∨ b = 43) (x1 : Int) (mem : hMem) : hv_Met 0 0 0 0 yX1_restOf cX1_restOf 2 (some FieldType.int) (fun ad _ _ => [.ref (ad b), .int (hv_I x1)]) mem (f_X1_restOf b x1 mem) := by
  refine hv_start (by decide +kernel) (fun _ _ _ => Nat.le_of_ble_eq_true rfl) ?_
  intro X hc
  have hc : hv_C X cX1_restOf 2 RX1 (some FieldType.int) 0 0 0 := hc
  show hv_R X 2 0 0 (hv_QX X 0 0 0) (f_X1_restOf b x1 mem) mem [] [(0, .ref (hv_ad X b)), (1, .int (hv_I x1))] [] 0
  unfold f_X1_restOf
  refine hv_iload_n hc dX1_restOf_0 rfl (hv_m 1 rfl) ?_
  refine hv_if_lt (tgt := 20) hc dX1_restOf_1 (by decide) ?_ ?_
  · refine hv_iconst hc dX1_restOf_20 ?_
    exact hv_iret hc dX1_restOf_21
  · refine hv_iload_n hc dX1_restOf_4 rfl (hv_m 1 rfl) ?_
    refine hv_sipush hc dX1_restOf_5 (by decide) ?_
    refine hv_icmp_ge (tgt := 20) hc dX1_restOf_8 (by decide) ?_ ?_
    · refine hv_iconst hc dX1_restOf_20 ?_
      exact hv_iret hc dX1_restOf_21
    · refine hv_aload_n hc dX1_restOf_11 rfl (hv_m 0 rfl) ?_
      refine hv_getR hc fl_X1_36 (sh_X1 hb) rfl dX1_restOf_12 ?_
      refine hv_iload_n hc dX1_restOf_15 rfl (hv_m 1 rfl) ?_
      refine hv_iaload hc (sh_X1_9 hb) (Nat.le_of_ble_eq_true rfl) dX1_restOf_16 (fun v1 => ?_)
      refine hv_goto (tgt := 21) hc dX1_restOf_17 (by decide) ?_
      exact hv_iret hc dX1_restOf_21
def J_X1_heap_161 (b : Nat) (x3 : Int) (mem : hMem) : hRs := hv_ald mem (b + 7) 864 x3 (fun v1 => hv_ast mem (b + 7) 864 x3 (v1 + 1) (fun m2 => hv_ret x3 m2))
set_option maxRecDepth 100000 in
theorem g_X1_heap_161 {X : hv_X} (hc : hv_C X cX1_heap 6 RX1 (some FieldType.int) 1 0 0) (b : Nat) (hb : b = 27 ∨ b = 43) (x3 : Int) (mem : hMem) : hv_R X 6 0 0 (hv_QX X 0 0 0) (J_X1_heap_161 b x3 mem) mem [] [(0, .ref (hv_ad X b)), (3, .int (hv_I x3))] [] 161 := by
  unfold J_X1_heap_161
  refine hv_aload_n hc dX1_heap_161 rfl (hv_m 0 rfl) ?_
  refine hv_getR hc fl_X1_30 (sh_X1 hb) rfl dX1_heap_162 ?_
  refine hv_iload_n hc dX1_heap_165 rfl (hv_m 1 rfl) ?_
  refine hv_dup2 hc dX1_heap_166 rfl rfl ?_
  refine hv_iaload hc (sh_X1_7 hb) (Nat.le_of_ble_eq_true rfl) dX1_heap_167 (fun v1 => ?_)
  refine hv_iconst hc dX1_heap_168 ?_
  refine hv_iadd hc dX1_heap_169 ?_
  refine hv_iastore hc (sh_X1_7 hb) (Nat.le_of_ble_eq_true rfl) dX1_heap_170 (fun m2 => ?_)
  refine hv_iload_n hc dX1_heap_171 rfl (hv_m 1 rfl) ?_
  exact hv_iret hc dX1_heap_172
def B_X1_heap_90 (b : Nat) (R90 : Int → Int → Int → hMem → hRs) (x3 x4 x5 : Int) (mem : hMem) : hRs := hv_eq x4 0 (J_X1_heap_161 b x3 mem) (hv_lt x5 2592 (hv_ald mem (b + 6) 864 x3 (fun v1 => hv_b (f_X1_firstOf b x4 mem) (fun r2 m3 => hv_b (f_X1_holdsOf b r2 m3) (fun r4 m5 => hv_ast m5 (b + 6) 864 x3 (v1 + r4) (fun m6 => hv_ald m6 (b + 7) 864 x3 (fun v7 => hv_b (f_X1_firstOf b x4 m6) (fun r8 m9 => hv_b (f_X1_deepOf b r8 m9) (fun r10 m11 => hv_b (f_J9_max_7cf53 v7 r10 m11) (fun r12 m13 => hv_ast m13 (b + 7) 864 x3 r12 (fun m14 => hv_b (f_X1_restOf b x4 m14) (fun r15 m16 => hv_set (x5 + 1) (fun y17 => R90 x3 r15 y17 m16)))))))))))) (J_X1_heap_161 b x3 mem))
def L_X1_heap_90 (b : Nat) : Nat → Int → Int → Int → hMem → hRs
  | 0 => fun _ _ _ _ => none
  | n + 1 => B_X1_heap_90 b (L_X1_heap_90 b n)
set_option maxRecDepth 100000 in
theorem gB_X1_heap_90 {X : hv_X} (hc : hv_C X cX1_heap 6 RX1 (some FieldType.int) 1 0 0) (b : Nat) (hb : b = 27 ∨ b = 43) (R90 : Int → Int → Int → hMem → hRs) (hR90 : ∀ (x3 x4 x5 : Int) (mem : hMem), hv_R X 6 0 0 (hv_QX X 0 0 0) (R90 x3 x4 x5 mem) mem [] [(0, .ref (hv_ad X b)), (3, .int (hv_I x3)), (4, .int (hv_I x4)), (5, .int (hv_I x5))] [] 90) (x3 x4 x5 : Int) (mem : hMem) : hv_R X 6 0 0 (hv_QX X 0 0 0) (B_X1_heap_90 b R90 x3 x4 x5 mem) mem [] [(0, .ref (hv_ad X b)), (3, .int (hv_I x3)), (4, .int (hv_I x4)), (5, .int (hv_I x5))] [] 90 := by
  unfold B_X1_heap_90
  refine hv_iload hc dX1_heap_90 (hv_m 2 rfl) ?_
  refine hv_if_eq (tgt := 161) hc dX1_heap_92 (by decide) ?_ ?_
  · exact hv_pick [0, 1] rfl (g_X1_heap_161 hc b hb x3 mem)
  · refine hv_iload hc dX1_heap_95 (hv_m 3 rfl) ?_
    refine hv_sipush hc dX1_heap_97 (by decide) ?_
    refine hv_icmp_ge (tgt := 161) hc dX1_heap_100 (by decide) ?_ ?_
    · exact hv_pick [0, 1] rfl (g_X1_heap_161 hc b hb x3 mem)
    · refine hv_aload_n hc dX1_heap_103 rfl (hv_m 0 rfl) ?_
      refine hv_getR hc fl_X1_27 (sh_X1 hb) rfl dX1_heap_104 ?_
      refine hv_iload_n hc dX1_heap_107 rfl (hv_m 1 rfl) ?_
      refine hv_dup2 hc dX1_heap_108 rfl rfl ?_
      refine hv_iaload hc (sh_X1_6 hb) (Nat.le_of_ble_eq_true rfl) dX1_heap_109 (fun v1 => ?_)
      refine hv_aload_n hc dX1_heap_110 rfl (hv_m 0 rfl) ?_
      refine hv_aload_n hc dX1_heap_111 rfl (hv_m 0 rfl) ?_
      refine hv_iload hc dX1_heap_112 (hv_m 2 rfl) ?_
      refine hv_callVi hc (c_X1_firstOf b hb x4 mem) yv_X1_firstOf tw_674 (sh_X1 hb) rfl rfl rfl rfl (Nat.le_of_ble_eq_true rfl) (Nat.le_of_ble_eq_true rfl) (Nat.zero_le _) (Nat.zero_le _) dX1_heap_114 (fun r2 m3 => ?_)
      refine hv_callVi hc (c_X1_holdsOf b hb r2 m3) yv_X1_holdsOf tw_678 (sh_X1 hb) rfl rfl rfl rfl (Nat.le_of_ble_eq_true rfl) (Nat.le_of_ble_eq_true rfl) (Nat.zero_le _) (Nat.zero_le _) dX1_heap_117 (fun r4 m5 => ?_)
      refine hv_iadd hc dX1_heap_120 ?_
      refine hv_iastore hc (sh_X1_6 hb) (Nat.le_of_ble_eq_true rfl) dX1_heap_121 (fun m6 => ?_)
      refine hv_aload_n hc dX1_heap_122 rfl (hv_m 0 rfl) ?_
      refine hv_getR hc fl_X1_30 (sh_X1 hb) rfl dX1_heap_123 ?_
      refine hv_iload_n hc dX1_heap_126 rfl (hv_m 1 rfl) ?_
      refine hv_aload_n hc dX1_heap_127 rfl (hv_m 0 rfl) ?_
      refine hv_getR hc fl_X1_30 (sh_X1 hb) rfl dX1_heap_128 ?_
      refine hv_iload_n hc dX1_heap_131 rfl (hv_m 1 rfl) ?_
      refine hv_iaload hc (sh_X1_7 hb) (Nat.le_of_ble_eq_true rfl) dX1_heap_132 (fun v7 => ?_)
      refine hv_aload_n hc dX1_heap_133 rfl (hv_m 0 rfl) ?_
      refine hv_aload_n hc dX1_heap_134 rfl (hv_m 0 rfl) ?_
      refine hv_iload hc dX1_heap_135 (hv_m 2 rfl) ?_
      refine hv_callVi hc (c_X1_firstOf b hb x4 m6) yv_X1_firstOf tw_674 (sh_X1 hb) rfl rfl rfl rfl (Nat.le_of_ble_eq_true rfl) (Nat.le_of_ble_eq_true rfl) (Nat.zero_le _) (Nat.zero_le _) dX1_heap_137 (fun r8 m9 => ?_)
      refine hv_callVi hc (c_X1_deepOf b hb r8 m9) yv_X1_deepOf tw_682 (sh_X1 hb) rfl rfl rfl rfl (Nat.le_of_ble_eq_true rfl) (Nat.le_of_ble_eq_true rfl) (Nat.zero_le _) (Nat.zero_le _) dX1_heap_140 (fun r10 m11 => ?_)
      refine hv_callSi hc (c_J9_max_7cf53 v7 r10 m11) ys_J9_max_7cf53 tw_686 rfl rfl rfl (Nat.le_of_ble_eq_true rfl) (Nat.le_of_ble_eq_true rfl) (Nat.zero_le _) (Nat.zero_le _) dX1_heap_143 (fun r12 m13 => ?_)
      refine hv_iastore hc (sh_X1_7 hb) (Nat.le_of_ble_eq_true rfl) dX1_heap_146 (fun m14 => ?_)
      refine hv_aload_n hc dX1_heap_147 rfl (hv_m 0 rfl) ?_
      refine hv_iload hc dX1_heap_148 (hv_m 2 rfl) ?_
      refine hv_callVi hc (c_X1_restOf b hb x4 m14) yv_X1_restOf tw_689 (sh_X1 hb) rfl rfl rfl rfl (Nat.le_of_ble_eq_true rfl) (Nat.le_of_ble_eq_true rfl) (Nat.zero_le _) (Nat.zero_le _) dX1_heap_150 (fun r15 m16 => ?_)
      refine hv_istore (lv' := [(4, .int (hv_I r15)), (0, .ref (hv_ad X b)), (3, .int (hv_I x3)), (5, .int (hv_I x5))]) hc dX1_heap_153 (by decide) rfl ?_
      refine hv_iinc_s (lvf := fun y17 => [(5, .int (hv_I y17)), (4, .int (hv_I r15)), (0, .ref (hv_ad X b)), (3, .int (hv_I x3))]) hc dX1_heap_155 (by decide) (hv_m 3 rfl) (fun _ => rfl) (fun y17 => ?_)
      refine hv_goto (tgt := 90) hc dX1_heap_158 (by decide) ?_
      exact hv_pick [2, 3, 1, 0] rfl (hR90 x3 r15 y17 m16)
theorem g_X1_heap_90 {X : hv_X} (hc : hv_C X cX1_heap 6 RX1 (some FieldType.int) 1 0 0) (b : Nat) (hb : b = 27 ∨ b = 43) : ∀ (n : Nat) (x3 x4 x5 : Int) (mem : hMem), hv_R X 6 0 0 (hv_QX X 0 0 0) (L_X1_heap_90 b n x3 x4 x5 mem) mem [] [(0, .ref (hv_ad X b)), (3, .int (hv_I x3)), (4, .int (hv_I x4)), (5, .int (hv_I x5))] [] 90 := by
  intro n
  induction n with
  | zero => intros; exact hv_none
  | succ n ih => exact gB_X1_heap_90 hc b hb _ ih
def f_X1_heap (b : Nat) (x1 x2 : Int) (mem : hMem) : hRs := hv_lt (mem b 9) 1 (hv_ret 0 mem) (hv_lt (mem b 9) 864 (hv_set (mem b 9) (fun y1 => hv_put mem b 9 ((mem b 9) + 1) (fun m2 => hv_ast m2 (b + 1) 864 y1 x1 (fun m3 => hv_ast m3 (b + 2) 864 y1 0 (fun m4 => hv_ast m4 (b + 3) 864 y1 0 (fun m5 => hv_ast m5 (b + 4) 864 y1 0 (fun m6 => hv_ast m6 (b + 5) 864 y1 x2 (fun m7 => hv_ast m7 (b + 6) 864 y1 1 (fun m8 => hv_ast m8 (b + 7) 864 y1 0 (fun m9 => L_X1_heap_90 b hv_FU y1 x2 0 m9)))))))))) (hv_ret 0 mem))
set_option maxRecDepth 100000 in
set_option maxHeartbeats 4000000 in
theorem c_X1_heap (b : Nat) (hb : b = 27 ∨ b = 43) (x1 x2 : Int) (mem : hMem) : hv_Met 1 0 0 0 yX1_heap cX1_heap 6 (some FieldType.int) (fun ad _ _ => [.ref (ad b), .int (hv_I x1), .int (hv_I x2)]) mem (f_X1_heap b x1 x2 mem) := by
  refine hv_start (by decide +kernel) (fun _ _ _ => Nat.le_of_ble_eq_true rfl) ?_
  intro X hc
  have hc : hv_C X cX1_heap 6 RX1 (some FieldType.int) 1 0 0 := hc
  show hv_R X 6 0 0 (hv_QX X 0 0 0) (f_X1_heap b x1 x2 mem) mem [] [(0, .ref (hv_ad X b)), (1, .int (hv_I x1)), (2, .int (hv_I x2))] [] 0
  unfold f_X1_heap
  refine hv_aload_n hc dX1_heap_0 rfl (hv_m 0 rfl) ?_
  refine hv_getI hc fl_X1_39 (sh_X1 hb) rfl dX1_heap_1 ?_
  refine hv_iconst hc dX1_heap_4 ?_
  refine hv_icmp_lt (tgt := 18) hc dX1_heap_5 (by decide) ?_ ?_
  · refine hv_iconst hc dX1_heap_18 ?_
    exact hv_iret hc dX1_heap_19
  · refine hv_aload_n hc dX1_heap_8 rfl (hv_m 0 rfl) ?_
    refine hv_getI hc fl_X1_39 (sh_X1 hb) rfl dX1_heap_9 ?_
    refine hv_sipush hc dX1_heap_12 (by decide) ?_
    refine hv_icmp_lt (tgt := 20) hc dX1_heap_15 (by decide) ?_ ?_
    · refine hv_aload_n hc dX1_heap_20 rfl (hv_m 0 rfl) ?_
      refine hv_getI hc fl_X1_39 (sh_X1 hb) rfl dX1_heap_21 ?_
      refine hv_istore_ns (lvf := fun y1 => [(3, .int (hv_I y1)), (0, .ref (hv_ad X b)), (1, .int (hv_I x1)), (2, .int (hv_I x2))]) hc dX1_heap_24 rfl (by decide) (fun _ => rfl) (fun y1 => ?_)
      refine hv_aload_n hc dX1_heap_25 rfl (hv_m 1 rfl) ?_
      refine hv_dup hc dX1_heap_26 rfl ?_
      refine hv_getI hc fl_X1_39 (sh_X1 hb) rfl dX1_heap_27 ?_
      refine hv_iconst hc dX1_heap_30 ?_
      refine hv_iadd hc dX1_heap_31 ?_
      refine hv_putI hc fp_X1_39 (sh_X1 hb) rfl dX1_heap_32 (fun m2 => ?_)
      refine hv_aload_n hc dX1_heap_35 rfl (hv_m 1 rfl) ?_
      refine hv_getR hc fl_X1_11 (sh_X1 hb) rfl dX1_heap_36 ?_
      refine hv_iload_n hc dX1_heap_39 rfl (hv_m 0 rfl) ?_
      refine hv_iload_n hc dX1_heap_40 rfl (hv_m 2 rfl) ?_
      refine hv_iastore hc (sh_X1_1 hb) (Nat.le_of_ble_eq_true rfl) dX1_heap_41 (fun m3 => ?_)
      refine hv_aload_n hc dX1_heap_42 rfl (hv_m 1 rfl) ?_
      refine hv_getR hc fl_X1_15 (sh_X1 hb) rfl dX1_heap_43 ?_
      refine hv_iload_n hc dX1_heap_46 rfl (hv_m 0 rfl) ?_
      refine hv_iconst hc dX1_heap_47 ?_
      refine hv_iastore hc (sh_X1_2 hb) (Nat.le_of_ble_eq_true rfl) dX1_heap_48 (fun m4 => ?_)
      refine hv_aload_n hc dX1_heap_49 rfl (hv_m 1 rfl) ?_
      refine hv_getR hc fl_X1_18 (sh_X1 hb) rfl dX1_heap_50 ?_
      refine hv_iload_n hc dX1_heap_53 rfl (hv_m 0 rfl) ?_
      refine hv_iconst hc dX1_heap_54 ?_
      refine hv_iastore hc (sh_X1_3 hb) (Nat.le_of_ble_eq_true rfl) dX1_heap_55 (fun m5 => ?_)
      refine hv_aload_n hc dX1_heap_56 rfl (hv_m 1 rfl) ?_
      refine hv_getR hc fl_X1_21 (sh_X1 hb) rfl dX1_heap_57 ?_
      refine hv_iload_n hc dX1_heap_60 rfl (hv_m 0 rfl) ?_
      refine hv_iconst hc dX1_heap_61 ?_
      refine hv_iastore hc (sh_X1_4 hb) (Nat.le_of_ble_eq_true rfl) dX1_heap_62 (fun m6 => ?_)
      refine hv_aload_n hc dX1_heap_63 rfl (hv_m 1 rfl) ?_
      refine hv_getR hc fl_X1_24 (sh_X1 hb) rfl dX1_heap_64 ?_
      refine hv_iload_n hc dX1_heap_67 rfl (hv_m 0 rfl) ?_
      refine hv_iload_n hc dX1_heap_68 rfl (hv_m 3 rfl) ?_
      refine hv_iastore hc (sh_X1_5 hb) (Nat.le_of_ble_eq_true rfl) dX1_heap_69 (fun m7 => ?_)
      refine hv_aload_n hc dX1_heap_70 rfl (hv_m 1 rfl) ?_
      refine hv_getR hc fl_X1_27 (sh_X1 hb) rfl dX1_heap_71 ?_
      refine hv_iload_n hc dX1_heap_74 rfl (hv_m 0 rfl) ?_
      refine hv_iconst hc dX1_heap_75 ?_
      refine hv_iastore hc (sh_X1_6 hb) (Nat.le_of_ble_eq_true rfl) dX1_heap_76 (fun m8 => ?_)
      refine hv_aload_n hc dX1_heap_77 rfl (hv_m 1 rfl) ?_
      refine hv_getR hc fl_X1_30 (sh_X1 hb) rfl dX1_heap_78 ?_
      refine hv_iload_n hc dX1_heap_81 rfl (hv_m 0 rfl) ?_
      refine hv_iconst hc dX1_heap_82 ?_
      refine hv_iastore hc (sh_X1_7 hb) (Nat.le_of_ble_eq_true rfl) dX1_heap_83 (fun m9 => ?_)
      refine hv_iload_n hc dX1_heap_84 rfl (hv_m 3 rfl) ?_
      refine hv_istore (lv' := [(4, .int (hv_I x2)), (3, .int (hv_I y1)), (0, .ref (hv_ad X b)), (1, .int (hv_I x1)), (2, .int (hv_I x2))]) hc dX1_heap_85 (by decide) rfl ?_
      refine hv_iconst hc dX1_heap_87 ?_
      refine hv_istore (lv' := [(5, .int (hv_I 0)), (4, .int (hv_I x2)), (3, .int (hv_I y1)), (0, .ref (hv_ad X b)), (1, .int (hv_I x1)), (2, .int (hv_I x2))]) hc dX1_heap_88 (by decide) rfl ?_
      exact hv_pick [3, 2, 1, 0] rfl (g_X1_heap_90 hc b hb hv_FU y1 x2 0 m9)
    · refine hv_iconst hc dX1_heap_18 ?_
      exact hv_iret hc dX1_heap_19
def f_X1_tree (b : Nat) (x1 x2 x3 x4 x5 x6 : Int) (mem : hMem) : hRs := hv_lt (mem b 9) 1 (hv_ret 0 mem) (hv_lt (mem b 9) 864 (hv_lt x2 0 (hv_ret 0 mem) (hv_lt x2 864 (hv_set (mem b 9) (fun y1 => hv_put mem b 9 ((mem b 9) + 1) (fun m2 => hv_ald m2 (b + 1) 864 x2 (fun v3 => hv_ast m2 (b + 1) 864 y1 v3 (fun m4 => hv_ast m4 (b + 2) 864 y1 x1 (fun m5 => hv_ast m5 (b + 3) 864 y1 x2 (fun m6 => hv_ast m6 (b + 4) 864 y1 x3 (fun m7 => hv_ast m7 (b + 5) 864 y1 x4 (fun m8 => hv_ast m8 (b + 6) 864 y1 x5 (fun m9 => hv_ast m9 (b + 7) 864 y1 x6 (fun m10 => hv_ret y1 m10))))))))))) (hv_ret 0 mem))) (hv_ret 0 mem))
set_option maxRecDepth 100000 in
set_option maxHeartbeats 4000000 in
theorem c_X1_tree (b : Nat) (hb : b = 27 ∨ b = 43) (x1 x2 x3 x4 x5 x6 : Int) (mem : hMem) : hv_Met 0 0 0 0 yX1_tree cX1_tree 8 (some FieldType.int) (fun ad _ _ => [.ref (ad b), .int (hv_I x1), .int (hv_I x2), .int (hv_I x3), .int (hv_I x4), .int (hv_I x5), .int (hv_I x6)]) mem (f_X1_tree b x1 x2 x3 x4 x5 x6 mem) := by
  refine hv_start (by decide +kernel) (fun _ _ _ => Nat.le_of_ble_eq_true rfl) ?_
  intro X hc
  have hc : hv_C X cX1_tree 8 RX1 (some FieldType.int) 0 0 0 := hc
  show hv_R X 8 0 0 (hv_QX X 0 0 0) (f_X1_tree b x1 x2 x3 x4 x5 x6 mem) mem [] [(0, .ref (hv_ad X b)), (1, .int (hv_I x1)), (2, .int (hv_I x2)), (3, .int (hv_I x3)), (4, .int (hv_I x4)), (5, .int (hv_I x5)), (6, .int (hv_I x6))] [] 0
  unfold f_X1_tree
  refine hv_aload_n hc dX1_tree_0 rfl (hv_m 0 rfl) ?_
  refine hv_getI hc fl_X1_39 (sh_X1 hb) rfl dX1_tree_1 ?_
  refine hv_iconst hc dX1_tree_4 ?_
  refine hv_icmp_lt (tgt := 29) hc dX1_tree_5 (by decide) ?_ ?_
  · refine hv_iconst hc dX1_tree_29 ?_
    exact hv_iret hc dX1_tree_30
  · refine hv_aload_n hc dX1_tree_8 rfl (hv_m 0 rfl) ?_
    refine hv_getI hc fl_X1_39 (sh_X1 hb) rfl dX1_tree_9 ?_
    refine hv_sipush hc dX1_tree_12 (by decide) ?_
    refine hv_icmp_ge (tgt := 29) hc dX1_tree_15 (by decide) ?_ ?_
    · refine hv_iconst hc dX1_tree_29 ?_
      exact hv_iret hc dX1_tree_30
    · refine hv_iload_n hc dX1_tree_18 rfl (hv_m 2 rfl) ?_
      refine hv_if_lt (tgt := 29) hc dX1_tree_19 (by decide) ?_ ?_
      · refine hv_iconst hc dX1_tree_29 ?_
        exact hv_iret hc dX1_tree_30
      · refine hv_iload_n hc dX1_tree_22 rfl (hv_m 2 rfl) ?_
        refine hv_sipush hc dX1_tree_23 (by decide) ?_
        refine hv_icmp_lt (tgt := 31) hc dX1_tree_26 (by decide) ?_ ?_
        · refine hv_aload_n hc dX1_tree_31 rfl (hv_m 0 rfl) ?_
          refine hv_getI hc fl_X1_39 (sh_X1 hb) rfl dX1_tree_32 ?_
          refine hv_istore_s (lvf := fun y1 => [(7, .int (hv_I y1)), (0, .ref (hv_ad X b)), (1, .int (hv_I x1)), (2, .int (hv_I x2)), (3, .int (hv_I x3)), (4, .int (hv_I x4)), (5, .int (hv_I x5)), (6, .int (hv_I x6))]) hc dX1_tree_35 (by decide) (fun _ => rfl) (fun y1 => ?_)
          refine hv_aload_n hc dX1_tree_37 rfl (hv_m 1 rfl) ?_
          refine hv_dup hc dX1_tree_38 rfl ?_
          refine hv_getI hc fl_X1_39 (sh_X1 hb) rfl dX1_tree_39 ?_
          refine hv_iconst hc dX1_tree_42 ?_
          refine hv_iadd hc dX1_tree_43 ?_
          refine hv_putI hc fp_X1_39 (sh_X1 hb) rfl dX1_tree_44 (fun m2 => ?_)
          refine hv_aload_n hc dX1_tree_47 rfl (hv_m 1 rfl) ?_
          refine hv_getR hc fl_X1_11 (sh_X1 hb) rfl dX1_tree_48 ?_
          refine hv_iload hc dX1_tree_51 (hv_m 0 rfl) ?_
          refine hv_aload_n hc dX1_tree_53 rfl (hv_m 1 rfl) ?_
          refine hv_getR hc fl_X1_11 (sh_X1 hb) rfl dX1_tree_54 ?_
          refine hv_iload_n hc dX1_tree_57 rfl (hv_m 3 rfl) ?_
          refine hv_iaload hc (sh_X1_1 hb) (Nat.le_of_ble_eq_true rfl) dX1_tree_58 (fun v3 => ?_)
          refine hv_iastore hc (sh_X1_1 hb) (Nat.le_of_ble_eq_true rfl) dX1_tree_59 (fun m4 => ?_)
          refine hv_aload_n hc dX1_tree_60 rfl (hv_m 1 rfl) ?_
          refine hv_getR hc fl_X1_15 (sh_X1 hb) rfl dX1_tree_61 ?_
          refine hv_iload hc dX1_tree_64 (hv_m 0 rfl) ?_
          refine hv_iload_n hc dX1_tree_66 rfl (hv_m 2 rfl) ?_
          refine hv_iastore hc (sh_X1_2 hb) (Nat.le_of_ble_eq_true rfl) dX1_tree_67 (fun m5 => ?_)
          refine hv_aload_n hc dX1_tree_68 rfl (hv_m 1 rfl) ?_
          refine hv_getR hc fl_X1_18 (sh_X1 hb) rfl dX1_tree_69 ?_
          refine hv_iload hc dX1_tree_72 (hv_m 0 rfl) ?_
          refine hv_iload_n hc dX1_tree_74 rfl (hv_m 3 rfl) ?_
          refine hv_iastore hc (sh_X1_3 hb) (Nat.le_of_ble_eq_true rfl) dX1_tree_75 (fun m6 => ?_)
          refine hv_aload_n hc dX1_tree_76 rfl (hv_m 1 rfl) ?_
          refine hv_getR hc fl_X1_21 (sh_X1 hb) rfl dX1_tree_77 ?_
          refine hv_iload hc dX1_tree_80 (hv_m 0 rfl) ?_
          refine hv_iload_n hc dX1_tree_82 rfl (hv_m 4 rfl) ?_
          refine hv_iastore hc (sh_X1_4 hb) (Nat.le_of_ble_eq_true rfl) dX1_tree_83 (fun m7 => ?_)
          refine hv_aload_n hc dX1_tree_84 rfl (hv_m 1 rfl) ?_
          refine hv_getR hc fl_X1_24 (sh_X1 hb) rfl dX1_tree_85 ?_
          refine hv_iload hc dX1_tree_88 (hv_m 0 rfl) ?_
          refine hv_iload hc dX1_tree_90 (hv_m 5 rfl) ?_
          refine hv_iastore hc (sh_X1_5 hb) (Nat.le_of_ble_eq_true rfl) dX1_tree_92 (fun m8 => ?_)
          refine hv_aload_n hc dX1_tree_93 rfl (hv_m 1 rfl) ?_
          refine hv_getR hc fl_X1_27 (sh_X1 hb) rfl dX1_tree_94 ?_
          refine hv_iload hc dX1_tree_97 (hv_m 0 rfl) ?_
          refine hv_iload hc dX1_tree_99 (hv_m 6 rfl) ?_
          refine hv_iastore hc (sh_X1_6 hb) (Nat.le_of_ble_eq_true rfl) dX1_tree_101 (fun m9 => ?_)
          refine hv_aload_n hc dX1_tree_102 rfl (hv_m 1 rfl) ?_
          refine hv_getR hc fl_X1_30 (sh_X1 hb) rfl dX1_tree_103 ?_
          refine hv_iload hc dX1_tree_106 (hv_m 0 rfl) ?_
          refine hv_iload hc dX1_tree_108 (hv_m 7 rfl) ?_
          refine hv_iastore hc (sh_X1_7 hb) (Nat.le_of_ble_eq_true rfl) dX1_tree_110 (fun m10 => ?_)
          refine hv_iload hc dX1_tree_111 (hv_m 0 rfl) ?_
          exact hv_iret hc dX1_tree_113
        · refine hv_iconst hc dX1_tree_29 ?_
          exact hv_iret hc dX1_tree_30
def f_X1_turnOf (b : Nat) (x1 : Int) (mem : hMem) : hRs := hv_lt x1 0 (hv_ret 0 mem) (hv_lt x1 864 (hv_ald mem (b + 1) 864 x1 (fun v1 => hv_ret v1 mem)) (hv_ret 0 mem))
set_option maxRecDepth 100000 in
set_option maxHeartbeats 4000000 in
theorem c_X1_turnOf (b : Nat) (hb : b = 27 ∨ b = 43) (x1 : Int) (mem : hMem) : hv_Met 0 0 0 0 yX1_turnOf cX1_turnOf 2 (some FieldType.int) (fun ad _ _ => [.ref (ad b), .int (hv_I x1)]) mem (f_X1_turnOf b x1 mem) := by
  refine hv_start (by decide +kernel) (fun _ _ _ => Nat.le_of_ble_eq_true rfl) ?_
  intro X hc
  have hc : hv_C X cX1_turnOf 2 RX1 (some FieldType.int) 0 0 0 := hc
  show hv_R X 2 0 0 (hv_QX X 0 0 0) (f_X1_turnOf b x1 mem) mem [] [(0, .ref (hv_ad X b)), (1, .int (hv_I x1))] [] 0
  unfold f_X1_turnOf
  refine hv_iload_n hc dX1_turnOf_0 rfl (hv_m 1 rfl) ?_
  refine hv_if_lt (tgt := 20) hc dX1_turnOf_1 (by decide) ?_ ?_
  · refine hv_iconst hc dX1_turnOf_20 ?_
    exact hv_iret hc dX1_turnOf_21
  · refine hv_iload_n hc dX1_turnOf_4 rfl (hv_m 1 rfl) ?_
    refine hv_sipush hc dX1_turnOf_5 (by decide) ?_
    refine hv_icmp_ge (tgt := 20) hc dX1_turnOf_8 (by decide) ?_ ?_
    · refine hv_iconst hc dX1_turnOf_20 ?_
      exact hv_iret hc dX1_turnOf_21
    · refine hv_aload_n hc dX1_turnOf_11 rfl (hv_m 0 rfl) ?_
      refine hv_getR hc fl_X1_11 (sh_X1 hb) rfl dX1_turnOf_12 ?_
      refine hv_iload_n hc dX1_turnOf_15 rfl (hv_m 1 rfl) ?_
      refine hv_iaload hc (sh_X1_1 hb) (Nat.le_of_ble_eq_true rfl) dX1_turnOf_16 (fun v1 => ?_)
      refine hv_goto (tgt := 21) hc dX1_turnOf_17 (by decide) ?_
      exact hv_iret hc dX1_turnOf_21
def f_X1_rankOf (b : Nat) (x1 : Int) (mem : hMem) : hRs := hv_lt x1 0 (hv_ret 0 mem) (hv_lt x1 864 (hv_ald mem (b + 2) 864 x1 (fun v1 => hv_ret v1 mem)) (hv_ret 0 mem))
set_option maxRecDepth 100000 in
set_option maxHeartbeats 4000000 in
theorem c_X1_rankOf (b : Nat) (hb : b = 27 ∨ b = 43) (x1 : Int) (mem : hMem) : hv_Met 0 0 0 0 yX1_rankOf cX1_rankOf 2 (some FieldType.int) (fun ad _ _ => [.ref (ad b), .int (hv_I x1)]) mem (f_X1_rankOf b x1 mem) := by
  refine hv_start (by decide +kernel) (fun _ _ _ => Nat.le_of_ble_eq_true rfl) ?_
  intro X hc
  have hc : hv_C X cX1_rankOf 2 RX1 (some FieldType.int) 0 0 0 := hc
  show hv_R X 2 0 0 (hv_QX X 0 0 0) (f_X1_rankOf b x1 mem) mem [] [(0, .ref (hv_ad X b)), (1, .int (hv_I x1))] [] 0
  unfold f_X1_rankOf
  refine hv_iload_n hc dX1_rankOf_0 rfl (hv_m 1 rfl) ?_
  refine hv_if_lt (tgt := 20) hc dX1_rankOf_1 (by decide) ?_ ?_
  · refine hv_iconst hc dX1_rankOf_20 ?_
    exact hv_iret hc dX1_rankOf_21
  · refine hv_iload_n hc dX1_rankOf_4 rfl (hv_m 1 rfl) ?_
    refine hv_sipush hc dX1_rankOf_5 (by decide) ?_
    refine hv_icmp_ge (tgt := 20) hc dX1_rankOf_8 (by decide) ?_ ?_
    · refine hv_iconst hc dX1_rankOf_20 ?_
      exact hv_iret hc dX1_rankOf_21
    · refine hv_aload_n hc dX1_rankOf_11 rfl (hv_m 0 rfl) ?_
      refine hv_getR hc fl_X1_15 (sh_X1 hb) rfl dX1_rankOf_12 ?_
      refine hv_iload_n hc dX1_rankOf_15 rfl (hv_m 1 rfl) ?_
      refine hv_iaload hc (sh_X1_2 hb) (Nat.le_of_ble_eq_true rfl) dX1_rankOf_16 (fun v1 => ?_)
      refine hv_goto (tgt := 21) hc dX1_rankOf_17 (by decide) ?_
      exact hv_iret hc dX1_rankOf_21
def f_X1_headOf (b : Nat) (x1 : Int) (mem : hMem) : hRs := hv_lt x1 0 (hv_ret 0 mem) (hv_lt x1 864 (hv_ald mem (b + 3) 864 x1 (fun v1 => hv_ret v1 mem)) (hv_ret 0 mem))
set_option maxRecDepth 100000 in
set_option maxHeartbeats 4000000 in
theorem c_X1_headOf (b : Nat) (hb : b = 27 ∨ b = 43) (x1 : Int) (mem : hMem) : hv_Met 0 0 0 0 yX1_headOf cX1_headOf 2 (some FieldType.int) (fun ad _ _ => [.ref (ad b), .int (hv_I x1)]) mem (f_X1_headOf b x1 mem) := by
  refine hv_start (by decide +kernel) (fun _ _ _ => Nat.le_of_ble_eq_true rfl) ?_
  intro X hc
  have hc : hv_C X cX1_headOf 2 RX1 (some FieldType.int) 0 0 0 := hc
  show hv_R X 2 0 0 (hv_QX X 0 0 0) (f_X1_headOf b x1 mem) mem [] [(0, .ref (hv_ad X b)), (1, .int (hv_I x1))] [] 0
  unfold f_X1_headOf
  refine hv_iload_n hc dX1_headOf_0 rfl (hv_m 1 rfl) ?_
  refine hv_if_lt (tgt := 20) hc dX1_headOf_1 (by decide) ?_ ?_
  · refine hv_iconst hc dX1_headOf_20 ?_
    exact hv_iret hc dX1_headOf_21
  · refine hv_iload_n hc dX1_headOf_4 rfl (hv_m 1 rfl) ?_
    refine hv_sipush hc dX1_headOf_5 (by decide) ?_
    refine hv_icmp_ge (tgt := 20) hc dX1_headOf_8 (by decide) ?_ ?_
    · refine hv_iconst hc dX1_headOf_20 ?_
      exact hv_iret hc dX1_headOf_21
    · refine hv_aload_n hc dX1_headOf_11 rfl (hv_m 0 rfl) ?_
      refine hv_getR hc fl_X1_18 (sh_X1 hb) rfl dX1_headOf_12 ?_
      refine hv_iload_n hc dX1_headOf_15 rfl (hv_m 1 rfl) ?_
      refine hv_iaload hc (sh_X1_3 hb) (Nat.le_of_ble_eq_true rfl) dX1_headOf_16 (fun v1 => ?_)
      refine hv_goto (tgt := 21) hc dX1_headOf_17 (by decide) ?_
      exact hv_iret hc dX1_headOf_21
def f_X1_singlesOf (b : Nat) (x1 : Int) (mem : hMem) : hRs := hv_lt x1 0 (hv_ret 0 mem) (hv_lt x1 864 (hv_ald mem (b + 4) 864 x1 (fun v1 => hv_ret v1 mem)) (hv_ret 0 mem))
set_option maxRecDepth 100000 in
set_option maxHeartbeats 4000000 in
theorem c_X1_singlesOf (b : Nat) (hb : b = 27 ∨ b = 43) (x1 : Int) (mem : hMem) : hv_Met 0 0 0 0 yX1_singlesOf cX1_singlesOf 2 (some FieldType.int) (fun ad _ _ => [.ref (ad b), .int (hv_I x1)]) mem (f_X1_singlesOf b x1 mem) := by
  refine hv_start (by decide +kernel) (fun _ _ _ => Nat.le_of_ble_eq_true rfl) ?_
  intro X hc
  have hc : hv_C X cX1_singlesOf 2 RX1 (some FieldType.int) 0 0 0 := hc
  show hv_R X 2 0 0 (hv_QX X 0 0 0) (f_X1_singlesOf b x1 mem) mem [] [(0, .ref (hv_ad X b)), (1, .int (hv_I x1))] [] 0
  unfold f_X1_singlesOf
  refine hv_iload_n hc dX1_singlesOf_0 rfl (hv_m 1 rfl) ?_
  refine hv_if_lt (tgt := 20) hc dX1_singlesOf_1 (by decide) ?_ ?_
  · refine hv_iconst hc dX1_singlesOf_20 ?_
    exact hv_iret hc dX1_singlesOf_21
  · refine hv_iload_n hc dX1_singlesOf_4 rfl (hv_m 1 rfl) ?_
    refine hv_sipush hc dX1_singlesOf_5 (by decide) ?_
    refine hv_icmp_ge (tgt := 20) hc dX1_singlesOf_8 (by decide) ?_ ?_
    · refine hv_iconst hc dX1_singlesOf_20 ?_
      exact hv_iret hc dX1_singlesOf_21
    · refine hv_aload_n hc dX1_singlesOf_11 rfl (hv_m 0 rfl) ?_
      refine hv_getR hc fl_X1_21 (sh_X1 hb) rfl dX1_singlesOf_12 ?_
      refine hv_iload_n hc dX1_singlesOf_15 rfl (hv_m 1 rfl) ?_
      refine hv_iaload hc (sh_X1_4 hb) (Nat.le_of_ble_eq_true rfl) dX1_singlesOf_16 (fun v1 => ?_)
      refine hv_goto (tgt := 21) hc dX1_singlesOf_17 (by decide) ?_
      exact hv_iret hc dX1_singlesOf_21
def f_X1_belowOf (b : Nat) (x1 : Int) (mem : hMem) : hRs := hv_lt x1 0 (hv_ret 0 mem) (hv_lt x1 864 (hv_ald mem (b + 5) 864 x1 (fun v1 => hv_ret v1 mem)) (hv_ret 0 mem))
set_option maxRecDepth 100000 in
set_option maxHeartbeats 4000000 in
theorem c_X1_belowOf (b : Nat) (hb : b = 27 ∨ b = 43) (x1 : Int) (mem : hMem) : hv_Met 0 0 0 0 yX1_belowOf cX1_belowOf 2 (some FieldType.int) (fun ad _ _ => [.ref (ad b), .int (hv_I x1)]) mem (f_X1_belowOf b x1 mem) := by
  refine hv_start (by decide +kernel) (fun _ _ _ => Nat.le_of_ble_eq_true rfl) ?_
  intro X hc
  have hc : hv_C X cX1_belowOf 2 RX1 (some FieldType.int) 0 0 0 := hc
  show hv_R X 2 0 0 (hv_QX X 0 0 0) (f_X1_belowOf b x1 mem) mem [] [(0, .ref (hv_ad X b)), (1, .int (hv_I x1))] [] 0
  unfold f_X1_belowOf
  refine hv_iload_n hc dX1_belowOf_0 rfl (hv_m 1 rfl) ?_
  refine hv_if_lt (tgt := 20) hc dX1_belowOf_1 (by decide) ?_ ?_
  · refine hv_iconst hc dX1_belowOf_20 ?_
    exact hv_iret hc dX1_belowOf_21
  · refine hv_iload_n hc dX1_belowOf_4 rfl (hv_m 1 rfl) ?_
    refine hv_sipush hc dX1_belowOf_5 (by decide) ?_
    refine hv_icmp_ge (tgt := 20) hc dX1_belowOf_8 (by decide) ?_ ?_
    · refine hv_iconst hc dX1_belowOf_20 ?_
      exact hv_iret hc dX1_belowOf_21
    · refine hv_aload_n hc dX1_belowOf_11 rfl (hv_m 0 rfl) ?_
      refine hv_getR hc fl_X1_24 (sh_X1 hb) rfl dX1_belowOf_12 ?_
      refine hv_iload_n hc dX1_belowOf_15 rfl (hv_m 1 rfl) ?_
      refine hv_iaload hc (sh_X1_5 hb) (Nat.le_of_ble_eq_true rfl) dX1_belowOf_16 (fun v1 => ?_)
      refine hv_goto (tgt := 21) hc dX1_belowOf_17 (by decide) ?_
      exact hv_iret hc dX1_belowOf_21
def B_X1_lengthOf_4 (b : Nat) (R4 : Int → Int → hMem → hRs) (x2 x3 : Int) (mem : hMem) : hRs := hv_eq x3 0 (hv_ret x2 mem) (hv_lt x2 2592 (hv_set (x2 + 1) (fun y1 => hv_b (f_X1_restOf b x3 mem) (fun r2 m3 => R4 y1 r2 m3))) (hv_ret x2 mem))
def L_X1_lengthOf_4 (b : Nat) : Nat → Int → Int → hMem → hRs
  | 0 => fun _ _ _ => none
  | n + 1 => B_X1_lengthOf_4 b (L_X1_lengthOf_4 b n)
set_option maxRecDepth 100000 in
theorem gB_X1_lengthOf_4 {X : hv_X} (hc : hv_C X cX1_lengthOf 4 RX1 (some FieldType.int) 1 0 0) (b : Nat) (hb : b = 27 ∨ b = 43) (R4 : Int → Int → hMem → hRs) (hR4 : ∀ (x2 x3 : Int) (mem : hMem), hv_R X 4 0 0 (hv_QX X 0 0 0) (R4 x2 x3 mem) mem [] [(0, .ref (hv_ad X b)), (2, .int (hv_I x2)), (3, .int (hv_I x3))] [] 4) (x2 x3 : Int) (mem : hMem) : hv_R X 4 0 0 (hv_QX X 0 0 0) (B_X1_lengthOf_4 b R4 x2 x3 mem) mem [] [(0, .ref (hv_ad X b)), (2, .int (hv_I x2)), (3, .int (hv_I x3))] [] 4 := by
  unfold B_X1_lengthOf_4
  refine hv_iload_n hc dX1_lengthOf_4 rfl (hv_m 2 rfl) ?_
  refine hv_if_eq (tgt := 27) hc dX1_lengthOf_5 (by decide) ?_ ?_
  · refine hv_iload_n hc dX1_lengthOf_27 rfl (hv_m 1 rfl) ?_
    exact hv_iret hc dX1_lengthOf_28
  · refine hv_iload_n hc dX1_lengthOf_8 rfl (hv_m 1 rfl) ?_
    refine hv_sipush hc dX1_lengthOf_9 (by decide) ?_
    refine hv_icmp_ge (tgt := 27) hc dX1_lengthOf_12 (by decide) ?_ ?_
    · refine hv_iload_n hc dX1_lengthOf_27 rfl (hv_m 1 rfl) ?_
      exact hv_iret hc dX1_lengthOf_28
    · refine hv_iinc_s (lvf := fun y1 => [(2, .int (hv_I y1)), (0, .ref (hv_ad X b)), (3, .int (hv_I x3))]) hc dX1_lengthOf_15 (by decide) (hv_m 1 rfl) (fun _ => rfl) (fun y1 => ?_)
      refine hv_aload_n hc dX1_lengthOf_18 rfl (hv_m 1 rfl) ?_
      refine hv_iload_n hc dX1_lengthOf_19 rfl (hv_m 2 rfl) ?_
      refine hv_callVi hc (c_X1_restOf b hb x3 mem) yv_X1_restOf tw_689 (sh_X1 hb) rfl rfl rfl rfl (Nat.le_of_ble_eq_true rfl) (Nat.le_of_ble_eq_true rfl) (Nat.zero_le _) (Nat.zero_le _) dX1_lengthOf_20 (fun r2 m3 => ?_)
      refine hv_istore_n (lv' := [(3, .int (hv_I r2)), (2, .int (hv_I y1)), (0, .ref (hv_ad X b))]) hc dX1_lengthOf_23 rfl (by decide) rfl ?_
      refine hv_goto (tgt := 4) hc dX1_lengthOf_24 (by decide) ?_
      exact hv_pick [2, 1, 0] rfl (hR4 y1 r2 m3)
theorem g_X1_lengthOf_4 {X : hv_X} (hc : hv_C X cX1_lengthOf 4 RX1 (some FieldType.int) 1 0 0) (b : Nat) (hb : b = 27 ∨ b = 43) : ∀ (n : Nat) (x2 x3 : Int) (mem : hMem), hv_R X 4 0 0 (hv_QX X 0 0 0) (L_X1_lengthOf_4 b n x2 x3 mem) mem [] [(0, .ref (hv_ad X b)), (2, .int (hv_I x2)), (3, .int (hv_I x3))] [] 4 := by
  intro n
  induction n with
  | zero => intros; exact hv_none
  | succ n ih => exact gB_X1_lengthOf_4 hc b hb _ ih
def f_X1_lengthOf (b : Nat) (x1 : Int) (mem : hMem) : hRs := L_X1_lengthOf_4 b hv_FU 0 x1 mem
set_option maxRecDepth 100000 in
set_option maxHeartbeats 4000000 in
theorem c_X1_lengthOf (b : Nat) (hb : b = 27 ∨ b = 43) (x1 : Int) (mem : hMem) : hv_Met 1 0 0 0 yX1_lengthOf cX1_lengthOf 4 (some FieldType.int) (fun ad _ _ => [.ref (ad b), .int (hv_I x1)]) mem (f_X1_lengthOf b x1 mem) := by
  refine hv_start (by decide +kernel) (fun _ _ _ => Nat.le_of_ble_eq_true rfl) ?_
  intro X hc
  have hc : hv_C X cX1_lengthOf 4 RX1 (some FieldType.int) 1 0 0 := hc
  show hv_R X 4 0 0 (hv_QX X 0 0 0) (f_X1_lengthOf b x1 mem) mem [] [(0, .ref (hv_ad X b)), (1, .int (hv_I x1))] [] 0
  unfold f_X1_lengthOf
  refine hv_iconst hc dX1_lengthOf_0 ?_
  refine hv_istore_n (lv' := [(2, .int (hv_I 0)), (0, .ref (hv_ad X b)), (1, .int (hv_I x1))]) hc dX1_lengthOf_1 rfl (by decide) rfl ?_
  refine hv_iload_n hc dX1_lengthOf_2 rfl (hv_m 2 rfl) ?_
  refine hv_istore_n (lv' := [(3, .int (hv_I x1)), (2, .int (hv_I 0)), (0, .ref (hv_ad X b)), (1, .int (hv_I x1))]) hc dX1_lengthOf_3 rfl (by decide) rfl ?_
  exact hv_pick [2, 1, 0] rfl (g_X1_lengthOf_4 hc b hb hv_FU 0 x1 mem)
def f_X2_cells (b : Nat) (mem : hMem) : hRs := hv_ret ((b + 1 : Nat) : Int) mem
set_option maxRecDepth 100000 in
set_option maxHeartbeats 4000000 in
theorem c_X2_cells (b : Nat) (hb : b = 26 ∨ b = 42) (mem : hMem) : hv_Met 0 0 0 2 yX2_cells cX2_cells 1 (some (FieldType.object "HeapVersions$Cells")) (fun ad _ _ => [.ref (ad b)]) mem (f_X2_cells b mem) := by
  refine hv_start (by decide +kernel) (fun _ _ _ => Nat.le_of_ble_eq_true rfl) ?_
  intro X hc
  have hc : hv_C X cX2_cells 1 RX2 (some (FieldType.object "HeapVersions$Cells")) 0 0 0 := hc
  show hv_R X 1 0 0 (hv_QX X 2 0 0) (f_X2_cells b mem) mem [] [(0, .ref (hv_ad X b))] [] 0
  unfold f_X2_cells
  refine hv_aload_n hc dX2_cells_0 rfl (hv_m 0 rfl) ?_
  refine hv_getR hc fl_X2_12 (sh_X2 hb) rfl dX2_cells_1 ?_
  exact hv_aret hc dX2_cells_4
def f_X2_heapOf (b : Nat) (x1 : Int) (mem : hMem) : hRs := hv_b (f_X10_at (b + 11) 30 x1 mem) (fun r1 m2 => hv_ret r1 m2)
set_option maxRecDepth 100000 in
set_option maxHeartbeats 4000000 in
theorem c_X2_heapOf (b : Nat) (hb : b = 26 ∨ b = 42) (x1 : Int) (mem : hMem) : hv_Met 1 0 0 0 yX2_heapOf cX2_heapOf 2 (some FieldType.int) (fun ad _ _ => [.ref (ad b), .int (hv_I x1)]) mem (f_X2_heapOf b x1 mem) := by
  refine hv_start (by decide +kernel) (fun _ _ _ => Nat.le_of_ble_eq_true rfl) ?_
  intro X hc
  have hc : hv_C X cX2_heapOf 2 RX2 (some FieldType.int) 1 0 0 := hc
  show hv_R X 2 0 0 (hv_QX X 0 0 0) (f_X2_heapOf b x1 mem) mem [] [(0, .ref (hv_ad X b)), (1, .int (hv_I x1))] [] 0
  unfold f_X2_heapOf
  refine hv_aload_n hc dX2_heapOf_0 rfl (hv_m 0 rfl) ?_
  refine hv_getR hc fl_X2_18 (sh_X2 hb) rfl dX2_heapOf_1 ?_
  refine hv_iload_n hc dX2_heapOf_4 rfl (hv_m 1 rfl) ?_
  refine hv_callSNi hc (c_X10_at (b + 11) 30 (sh_X2_11 hb) (Nat.le_of_ble_eq_true rfl) x1 mem) ys_X10_at nl_10 rfl rfl rfl (Nat.le_of_ble_eq_true rfl) (Nat.le_of_ble_eq_true rfl) (Nat.zero_le _) (Nat.zero_le _) dX2_heapOf_5 (fun r1 m2 => ?_)
  exact hv_iret hc dX2_heapOf_8
def f_X2_treesOf (b : Nat) (x1 : Int) (mem : hMem) : hRs := hv_b (f_X2_heapOf b x1 mem) (fun r1 m2 => hv_b (f_X1_belowOf (b + 1) r1 m2) (fun r3 m4 => hv_b (f_X1_lengthOf (b + 1) r3 m4) (fun r5 m6 => hv_ret r5 m6)))
set_option maxRecDepth 100000 in
set_option maxHeartbeats 4000000 in
theorem c_X2_treesOf (b : Nat) (hb : b = 26 ∨ b = 42) (x1 : Int) (mem : hMem) : hv_Met 2 0 0 0 yX2_treesOf cX2_treesOf 2 (some FieldType.int) (fun ad _ _ => [.ref (ad b), .int (hv_I x1)]) mem (f_X2_treesOf b x1 mem) := by
  refine hv_start (by decide +kernel) (fun _ _ _ => Nat.le_of_ble_eq_true rfl) ?_
  intro X hc
  have hc : hv_C X cX2_treesOf 2 RX2 (some FieldType.int) 2 0 0 := hc
  show hv_R X 2 0 0 (hv_QX X 0 0 0) (f_X2_treesOf b x1 mem) mem [] [(0, .ref (hv_ad X b)), (1, .int (hv_I x1))] [] 0
  unfold f_X2_treesOf
  refine hv_aload_n hc dX2_treesOf_0 rfl (hv_m 0 rfl) ?_
  refine hv_getR hc fl_X2_12 (sh_X2 hb) rfl dX2_treesOf_1 ?_
  refine hv_aload_n hc dX2_treesOf_4 rfl (hv_m 0 rfl) ?_
  refine hv_getR hc fl_X2_12 (sh_X2 hb) rfl dX2_treesOf_5 ?_
  refine hv_aload_n hc dX2_treesOf_8 rfl (hv_m 0 rfl) ?_
  refine hv_iload_n hc dX2_treesOf_9 rfl (hv_m 1 rfl) ?_
  refine hv_callVi hc (c_X2_heapOf b hb x1 mem) yv_X2_heapOf tw_693 (sh_X2 hb) rfl rfl rfl rfl (Nat.le_of_ble_eq_true rfl) (Nat.le_of_ble_eq_true rfl) (Nat.zero_le _) (Nat.zero_le _) dX2_treesOf_10 (fun r1 m2 => ?_)
  refine hv_callVi hc (c_X1_belowOf (b + 1) (hv_h2c hb) r1 m2) yv_X1_belowOf tw_705 (sh_X1 (hv_h2c hb)) rfl rfl rfl rfl (Nat.le_of_ble_eq_true rfl) (Nat.le_of_ble_eq_true rfl) (Nat.zero_le _) (Nat.zero_le _) dX2_treesOf_13 (fun r3 m4 => ?_)
  refine hv_callVi hc (c_X1_lengthOf (b + 1) (hv_h2c hb) r3 m4) yv_X1_lengthOf tw_866 (sh_X1 (hv_h2c hb)) rfl rfl rfl rfl (Nat.le_of_ble_eq_true rfl) (Nat.le_of_ble_eq_true rfl) (Nat.zero_le _) (Nat.zero_le _) dX2_treesOf_16 (fun r5 m6 => ?_)
  exact hv_iret hc dX2_treesOf_19
def J_X2_treeOf_41 (b : Nat) (x3 : Int) (mem : hMem) : hRs := hv_b (f_X1_firstOf (b + 1) x3 mem) (fun r1 m2 => hv_ret r1 m2)
set_option maxRecDepth 100000 in
theorem g_X2_treeOf_41 {X : hv_X} (hc : hv_C X cX2_treeOf 5 RX2 (some FieldType.int) 2 0 0) (b : Nat) (hb : b = 26 ∨ b = 42) (x3 : Int) (mem : hMem) : hv_R X 5 0 0 (hv_QX X 0 0 0) (J_X2_treeOf_41 b x3 mem) mem [] [(0, .ref (hv_ad X b)), (3, .int (hv_I x3))] [] 41 := by
  unfold J_X2_treeOf_41
  refine hv_aload_n hc dX2_treeOf_41 rfl (hv_m 0 rfl) ?_
  refine hv_getR hc fl_X2_12 (sh_X2 hb) rfl dX2_treeOf_42 ?_
  refine hv_iload_n hc dX2_treeOf_45 rfl (hv_m 1 rfl) ?_
  refine hv_callVi hc (c_X1_firstOf (b + 1) (hv_h2c hb) x3 mem) yv_X1_firstOf tw_713 (sh_X1 (hv_h2c hb)) rfl rfl rfl rfl (Nat.le_of_ble_eq_true rfl) (Nat.le_of_ble_eq_true rfl) (Nat.zero_le _) (Nat.zero_le _) dX2_treeOf_46 (fun r1 m2 => ?_)
  exact hv_iret hc dX2_treeOf_49
def B_X2_treeOf_16 (b : Nat) (R16 : Int → Int → Int → hMem → hRs) (x2 x3 x4 : Int) (mem : hMem) : hRs := hv_lt x4 x2 (hv_eq x3 0 (J_X2_treeOf_41 b x3 mem) (hv_b (f_X1_restOf (b + 1) x3 mem) (fun r1 m2 => hv_set (x4 + 1) (fun y3 => R16 x2 r1 y3 m2)))) (J_X2_treeOf_41 b x3 mem)
def L_X2_treeOf_16 (b : Nat) : Nat → Int → Int → Int → hMem → hRs
  | 0 => fun _ _ _ _ => none
  | n + 1 => B_X2_treeOf_16 b (L_X2_treeOf_16 b n)
set_option maxRecDepth 100000 in
theorem gB_X2_treeOf_16 {X : hv_X} (hc : hv_C X cX2_treeOf 5 RX2 (some FieldType.int) 2 0 0) (b : Nat) (hb : b = 26 ∨ b = 42) (R16 : Int → Int → Int → hMem → hRs) (hR16 : ∀ (x2 x3 x4 : Int) (mem : hMem), hv_R X 5 0 0 (hv_QX X 0 0 0) (R16 x2 x3 x4 mem) mem [] [(0, .ref (hv_ad X b)), (2, .int (hv_I x2)), (3, .int (hv_I x3)), (4, .int (hv_I x4))] [] 16) (x2 x3 x4 : Int) (mem : hMem) : hv_R X 5 0 0 (hv_QX X 0 0 0) (B_X2_treeOf_16 b R16 x2 x3 x4 mem) mem [] [(0, .ref (hv_ad X b)), (2, .int (hv_I x2)), (3, .int (hv_I x3)), (4, .int (hv_I x4))] [] 16 := by
  unfold B_X2_treeOf_16
  refine hv_iload hc dX2_treeOf_16 (hv_m 3 rfl) ?_
  refine hv_iload_n hc dX2_treeOf_18 rfl (hv_m 1 rfl) ?_
  refine hv_icmp_ge (tgt := 41) hc dX2_treeOf_19 (by decide) ?_ ?_
  · exact hv_pick [0, 2] rfl (g_X2_treeOf_41 hc b hb x3 mem)
  · refine hv_iload_n hc dX2_treeOf_22 rfl (hv_m 2 rfl) ?_
    refine hv_if_eq (tgt := 41) hc dX2_treeOf_23 (by decide) ?_ ?_
    · exact hv_pick [0, 2] rfl (g_X2_treeOf_41 hc b hb x3 mem)
    · refine hv_aload_n hc dX2_treeOf_26 rfl (hv_m 0 rfl) ?_
      refine hv_getR hc fl_X2_12 (sh_X2 hb) rfl dX2_treeOf_27 ?_
      refine hv_iload_n hc dX2_treeOf_30 rfl (hv_m 2 rfl) ?_
      refine hv_callVi hc (c_X1_restOf (b + 1) (hv_h2c hb) x3 mem) yv_X1_restOf tw_714 (sh_X1 (hv_h2c hb)) rfl rfl rfl rfl (Nat.le_of_ble_eq_true rfl) (Nat.le_of_ble_eq_true rfl) (Nat.zero_le _) (Nat.zero_le _) dX2_treeOf_31 (fun r1 m2 => ?_)
      refine hv_istore_n (lv' := [(3, .int (hv_I r1)), (0, .ref (hv_ad X b)), (2, .int (hv_I x2)), (4, .int (hv_I x4))]) hc dX2_treeOf_34 rfl (by decide) rfl ?_
      refine hv_iinc_s (lvf := fun y3 => [(4, .int (hv_I y3)), (3, .int (hv_I r1)), (0, .ref (hv_ad X b)), (2, .int (hv_I x2))]) hc dX2_treeOf_35 (by decide) (hv_m 3 rfl) (fun _ => rfl) (fun y3 => ?_)
      refine hv_goto (tgt := 16) hc dX2_treeOf_38 (by decide) ?_
      exact hv_pick [2, 3, 1, 0] rfl (hR16 x2 r1 y3 m2)
theorem g_X2_treeOf_16 {X : hv_X} (hc : hv_C X cX2_treeOf 5 RX2 (some FieldType.int) 2 0 0) (b : Nat) (hb : b = 26 ∨ b = 42) : ∀ (n : Nat) (x2 x3 x4 : Int) (mem : hMem), hv_R X 5 0 0 (hv_QX X 0 0 0) (L_X2_treeOf_16 b n x2 x3 x4 mem) mem [] [(0, .ref (hv_ad X b)), (2, .int (hv_I x2)), (3, .int (hv_I x3)), (4, .int (hv_I x4))] [] 16 := by
  intro n
  induction n with
  | zero => intros; exact hv_none
  | succ n ih => exact gB_X2_treeOf_16 hc b hb _ ih
def f_X2_treeOf (b : Nat) (x1 x2 : Int) (mem : hMem) : hRs := hv_b (f_X2_heapOf b x1 mem) (fun r1 m2 => hv_b (f_X1_belowOf (b + 1) r1 m2) (fun r3 m4 => L_X2_treeOf_16 b hv_FU x2 r3 0 m4))
set_option maxRecDepth 100000 in
set_option maxHeartbeats 4000000 in
theorem c_X2_treeOf (b : Nat) (hb : b = 26 ∨ b = 42) (x1 x2 : Int) (mem : hMem) : hv_Met 2 0 0 0 yX2_treeOf cX2_treeOf 5 (some FieldType.int) (fun ad _ _ => [.ref (ad b), .int (hv_I x1), .int (hv_I x2)]) mem (f_X2_treeOf b x1 x2 mem) := by
  refine hv_start (by decide +kernel) (fun _ _ _ => Nat.le_of_ble_eq_true rfl) ?_
  intro X hc
  have hc : hv_C X cX2_treeOf 5 RX2 (some FieldType.int) 2 0 0 := hc
  show hv_R X 5 0 0 (hv_QX X 0 0 0) (f_X2_treeOf b x1 x2 mem) mem [] [(0, .ref (hv_ad X b)), (1, .int (hv_I x1)), (2, .int (hv_I x2))] [] 0
  unfold f_X2_treeOf
  refine hv_aload_n hc dX2_treeOf_0 rfl (hv_m 0 rfl) ?_
  refine hv_getR hc fl_X2_12 (sh_X2 hb) rfl dX2_treeOf_1 ?_
  refine hv_aload_n hc dX2_treeOf_4 rfl (hv_m 0 rfl) ?_
  refine hv_iload_n hc dX2_treeOf_5 rfl (hv_m 1 rfl) ?_
  refine hv_callVi hc (c_X2_heapOf b hb x1 mem) yv_X2_heapOf tw_693 (sh_X2 hb) rfl rfl rfl rfl (Nat.le_of_ble_eq_true rfl) (Nat.le_of_ble_eq_true rfl) (Nat.zero_le _) (Nat.zero_le _) dX2_treeOf_6 (fun r1 m2 => ?_)
  refine hv_callVi hc (c_X1_belowOf (b + 1) (hv_h2c hb) r1 m2) yv_X1_belowOf tw_705 (sh_X1 (hv_h2c hb)) rfl rfl rfl rfl (Nat.le_of_ble_eq_true rfl) (Nat.le_of_ble_eq_true rfl) (Nat.zero_le _) (Nat.zero_le _) dX2_treeOf_9 (fun r3 m4 => ?_)
  refine hv_istore_n (lv' := [(3, .int (hv_I r3)), (0, .ref (hv_ad X b)), (1, .int (hv_I x1)), (2, .int (hv_I x2))]) hc dX2_treeOf_12 rfl (by decide) rfl ?_
  refine hv_iconst hc dX2_treeOf_13 ?_
  refine hv_istore (lv' := [(4, .int (hv_I 0)), (3, .int (hv_I r3)), (0, .ref (hv_ad X b)), (1, .int (hv_I x1)), (2, .int (hv_I x2))]) hc dX2_treeOf_14 (by decide) rfl ?_
  exact hv_pick [2, 4, 1, 0] rfl (g_X2_treeOf_16 hc b hb hv_FU x2 r3 0 m4)
def f_X2_linksOf (b : Nat) (x1 : Int) (mem : hMem) : hRs := hv_b (f_X10_at (b + 12) 30 x1 mem) (fun r1 m2 => hv_ret r1 m2)
set_option maxRecDepth 100000 in
set_option maxHeartbeats 4000000 in
theorem c_X2_linksOf (b : Nat) (hb : b = 26 ∨ b = 42) (x1 : Int) (mem : hMem) : hv_Met 1 0 0 0 yX2_linksOf cX2_linksOf 2 (some FieldType.int) (fun ad _ _ => [.ref (ad b), .int (hv_I x1)]) mem (f_X2_linksOf b x1 mem) := by
  refine hv_start (by decide +kernel) (fun _ _ _ => Nat.le_of_ble_eq_true rfl) ?_
  intro X hc
  have hc : hv_C X cX2_linksOf 2 RX2 (some FieldType.int) 1 0 0 := hc
  show hv_R X 2 0 0 (hv_QX X 0 0 0) (f_X2_linksOf b x1 mem) mem [] [(0, .ref (hv_ad X b)), (1, .int (hv_I x1))] [] 0
  unfold f_X2_linksOf
  refine hv_aload_n hc dX2_linksOf_0 rfl (hv_m 0 rfl) ?_
  refine hv_getR hc fl_X2_22 (sh_X2 hb) rfl dX2_linksOf_1 ?_
  refine hv_iload_n hc dX2_linksOf_4 rfl (hv_m 1 rfl) ?_
  refine hv_callSNi hc (c_X10_at (b + 12) 30 (sh_X2_12 hb) (Nat.le_of_ble_eq_true rfl) x1 mem) ys_X10_at nl_10 rfl rfl rfl (Nat.le_of_ble_eq_true rfl) (Nat.le_of_ble_eq_true rfl) (Nat.zero_le _) (Nat.zero_le _) dX2_linksOf_5 (fun r1 m2 => ?_)
  exact hv_iret hc dX2_linksOf_8
def B_X2_linksOfAll_4 (b : Nat) (R4 : Int → Int → hMem → hRs) (x1 x2 : Int) (mem : hMem) : hRs := hv_lt x2 (mem b 7) (hv_b (f_X2_linksOf b x2 mem) (fun r1 m2 => hv_set (x1 + r1) (fun y3 => hv_set (x2 + 1) (fun y4 => R4 y3 y4 m2)))) (hv_ret x1 mem)
def L_X2_linksOfAll_4 (b : Nat) : Nat → Int → Int → hMem → hRs
  | 0 => fun _ _ _ => none
  | n + 1 => B_X2_linksOfAll_4 b (L_X2_linksOfAll_4 b n)
set_option maxRecDepth 100000 in
theorem gB_X2_linksOfAll_4 {X : hv_X} (hc : hv_C X cX2_linksOfAll 3 RX2 (some FieldType.int) 2 0 0) (b : Nat) (hb : b = 26 ∨ b = 42) (R4 : Int → Int → hMem → hRs) (hR4 : ∀ (x1 x2 : Int) (mem : hMem), hv_R X 3 0 0 (hv_QX X 0 0 0) (R4 x1 x2 mem) mem [] [(0, .ref (hv_ad X b)), (1, .int (hv_I x1)), (2, .int (hv_I x2))] [] 4) (x1 x2 : Int) (mem : hMem) : hv_R X 3 0 0 (hv_QX X 0 0 0) (B_X2_linksOfAll_4 b R4 x1 x2 mem) mem [] [(0, .ref (hv_ad X b)), (1, .int (hv_I x1)), (2, .int (hv_I x2))] [] 4 := by
  unfold B_X2_linksOfAll_4
  refine hv_iload_n hc dX2_linksOfAll_4 rfl (hv_m 2 rfl) ?_
  refine hv_aload_n hc dX2_linksOfAll_5 rfl (hv_m 0 rfl) ?_
  refine hv_getI hc fl_X2_58 (sh_X2 hb) rfl dX2_linksOfAll_6 ?_
  refine hv_icmp_ge (tgt := 26) hc dX2_linksOfAll_9 (by decide) ?_ ?_
  · refine hv_iload_n hc dX2_linksOfAll_26 rfl (hv_m 1 rfl) ?_
    exact hv_iret hc dX2_linksOfAll_27
  · refine hv_iload_n hc dX2_linksOfAll_12 rfl (hv_m 1 rfl) ?_
    refine hv_aload_n hc dX2_linksOfAll_13 rfl (hv_m 0 rfl) ?_
    refine hv_iload_n hc dX2_linksOfAll_14 rfl (hv_m 2 rfl) ?_
    refine hv_callVi hc (c_X2_linksOf b hb x2 mem) yv_X2_linksOf tw_969 (sh_X2 hb) rfl rfl rfl rfl (Nat.le_of_ble_eq_true rfl) (Nat.le_of_ble_eq_true rfl) (Nat.zero_le _) (Nat.zero_le _) dX2_linksOfAll_15 (fun r1 m2 => ?_)
    refine hv_iadd hc dX2_linksOfAll_18 ?_
    refine hv_istore_ns (lvf := fun y3 => [(1, .int (hv_I y3)), (0, .ref (hv_ad X b)), (2, .int (hv_I x2))]) hc dX2_linksOfAll_19 rfl (by decide) (fun _ => rfl) (fun y3 => ?_)
    refine hv_iinc_s (lvf := fun y4 => [(2, .int (hv_I y4)), (1, .int (hv_I y3)), (0, .ref (hv_ad X b))]) hc dX2_linksOfAll_20 (by decide) (hv_m 2 rfl) (fun _ => rfl) (fun y4 => ?_)
    refine hv_goto (tgt := 4) hc dX2_linksOfAll_23 (by decide) ?_
    exact hv_pick [2, 1, 0] rfl (hR4 y3 y4 m2)
theorem g_X2_linksOfAll_4 {X : hv_X} (hc : hv_C X cX2_linksOfAll 3 RX2 (some FieldType.int) 2 0 0) (b : Nat) (hb : b = 26 ∨ b = 42) : ∀ (n : Nat) (x1 x2 : Int) (mem : hMem), hv_R X 3 0 0 (hv_QX X 0 0 0) (L_X2_linksOfAll_4 b n x1 x2 mem) mem [] [(0, .ref (hv_ad X b)), (1, .int (hv_I x1)), (2, .int (hv_I x2))] [] 4 := by
  intro n
  induction n with
  | zero => intros; exact hv_none
  | succ n ih => exact gB_X2_linksOfAll_4 hc b hb _ ih
def f_X2_linksOfAll (b : Nat) (mem : hMem) : hRs := L_X2_linksOfAll_4 b hv_FU 0 0 mem
set_option maxRecDepth 100000 in
set_option maxHeartbeats 4000000 in
theorem c_X2_linksOfAll (b : Nat) (hb : b = 26 ∨ b = 42) (mem : hMem) : hv_Met 2 0 0 0 yX2_linksOfAll cX2_linksOfAll 3 (some FieldType.int) (fun ad _ _ => [.ref (ad b)]) mem (f_X2_linksOfAll b mem) := by
  refine hv_start (by decide +kernel) (fun _ _ _ => Nat.le_of_ble_eq_true rfl) ?_
  intro X hc
  have hc : hv_C X cX2_linksOfAll 3 RX2 (some FieldType.int) 2 0 0 := hc
  show hv_R X 3 0 0 (hv_QX X 0 0 0) (f_X2_linksOfAll b mem) mem [] [(0, .ref (hv_ad X b))] [] 0
  unfold f_X2_linksOfAll
  refine hv_iconst hc dX2_linksOfAll_0 ?_
  refine hv_istore_n (lv' := [(1, .int (hv_I 0)), (0, .ref (hv_ad X b))]) hc dX2_linksOfAll_1 rfl (by decide) rfl ?_
  refine hv_iconst hc dX2_linksOfAll_2 ?_
  refine hv_istore_n (lv' := [(2, .int (hv_I 0)), (1, .int (hv_I 0)), (0, .ref (hv_ad X b))]) hc dX2_linksOfAll_3 rfl (by decide) rfl ?_
  exact hv_pick [2, 1, 0] rfl (g_X2_linksOfAll_4 hc b hb hv_FU 0 0 mem)
def J_X2_link_59 (b : Nat) (x1 x2 x4 s1 : Int) (mem : hMem) : hRs := hv_b (f_X1_belowOf (b + 1) x4 mem) (fun r1 m2 => hv_b (f_X1_row (b + 1) s1 r1 m2) (fun r3 m4 => hv_b (f_X1_rankOf (b + 1) x4 m4) (fun r5 m6 => hv_set (r5 + 1) (fun y7 => hv_b (f_X1_holdsOf (b + 1) x1 m6) (fun r8 m9 => hv_b (f_X1_holdsOf (b + 1) x2 m9) (fun r10 m11 => hv_set (r8 + r10) (fun y12 => hv_b (f_X1_deepOf (b + 1) x1 m11) (fun r13 m14 => hv_b (f_X1_deepOf (b + 1) x2 m14) (fun r15 m16 => hv_b (f_J9_max_7cf53 r13 r15 m16) (fun r17 m18 => hv_b (f_X1_headOf (b + 1) x4 m18) (fun r19 m20 => hv_b (f_X1_singlesOf (b + 1) x4 m20) (fun r21 m22 => hv_b (f_X1_tree (b + 1) y7 r19 r21 r3 y12 r17 m22) (fun r23 m24 => hv_ret r23 m24)))))))))))))
set_option maxRecDepth 100000 in
theorem g_X2_link_59 {X : hv_X} (hc : hv_C X cX2_link 9 RX2 (some FieldType.int) 1 0 0) (b : Nat) (hb : b = 26 ∨ b = 42) (x1 x2 x4 s1 : Int) (mem : hMem) : hv_R X 9 0 0 (hv_QX X 0 0 0) (J_X2_link_59 b x1 x2 x4 s1 mem) mem [] [(0, .ref (hv_ad X b)), (1, .int (hv_I x1)), (2, .int (hv_I x2)), (4, .int (hv_I x4))] [.int (hv_I s1), .ref (hv_ad X (b + 1))] 59 := by
  unfold J_X2_link_59
  refine hv_aload_n hc dX2_link_59 rfl (hv_m 0 rfl) ?_
  refine hv_getR hc fl_X2_12 (sh_X2 hb) rfl dX2_link_60 ?_
  refine hv_iload hc dX2_link_63 (hv_m 3 rfl) ?_
  refine hv_callVi hc (c_X1_belowOf (b + 1) (hv_h2c hb) x4 mem) yv_X1_belowOf tw_705 (sh_X1 (hv_h2c hb)) rfl rfl rfl rfl (Nat.le_of_ble_eq_true rfl) (Nat.le_of_ble_eq_true rfl) (Nat.zero_le _) (Nat.zero_le _) dX2_link_65 (fun r1 m2 => ?_)
  refine hv_callVi hc (c_X1_row (b + 1) (hv_h2c hb) s1 r1 m2) yv_X1_row tw_723 (sh_X1 (hv_h2c hb)) rfl rfl rfl rfl (Nat.le_of_ble_eq_true rfl) (Nat.le_of_ble_eq_true rfl) (Nat.zero_le _) (Nat.zero_le _) dX2_link_68 (fun r3 m4 => ?_)
  refine hv_istore (lv' := [(5, .int (hv_I r3)), (0, .ref (hv_ad X b)), (1, .int (hv_I x1)), (2, .int (hv_I x2)), (4, .int (hv_I x4))]) hc dX2_link_71 (by decide) rfl ?_
  refine hv_aload_n hc dX2_link_73 rfl (hv_m 1 rfl) ?_
  refine hv_getR hc fl_X2_12 (sh_X2 hb) rfl dX2_link_74 ?_
  refine hv_iload hc dX2_link_77 (hv_m 4 rfl) ?_
  refine hv_callVi hc (c_X1_rankOf (b + 1) (hv_h2c hb) x4 m4) yv_X1_rankOf tw_715 (sh_X1 (hv_h2c hb)) rfl rfl rfl rfl (Nat.le_of_ble_eq_true rfl) (Nat.le_of_ble_eq_true rfl) (Nat.zero_le _) (Nat.zero_le _) dX2_link_79 (fun r5 m6 => ?_)
  refine hv_iconst hc dX2_link_82 ?_
  refine hv_iadd hc dX2_link_83 ?_
  refine hv_istore_s (lvf := fun y7 => [(6, .int (hv_I y7)), (5, .int (hv_I r3)), (0, .ref (hv_ad X b)), (1, .int (hv_I x1)), (2, .int (hv_I x2)), (4, .int (hv_I x4))]) hc dX2_link_84 (by decide) (fun _ => rfl) (fun y7 => ?_)
  refine hv_aload_n hc dX2_link_86 rfl (hv_m 2 rfl) ?_
  refine hv_getR hc fl_X2_12 (sh_X2 hb) rfl dX2_link_87 ?_
  refine hv_iload_n hc dX2_link_90 rfl (hv_m 3 rfl) ?_
  refine hv_callVi hc (c_X1_holdsOf (b + 1) (hv_h2c hb) x1 m6) yv_X1_holdsOf tw_727 (sh_X1 (hv_h2c hb)) rfl rfl rfl rfl (Nat.le_of_ble_eq_true rfl) (Nat.le_of_ble_eq_true rfl) (Nat.zero_le _) (Nat.zero_le _) dX2_link_91 (fun r8 m9 => ?_)
  refine hv_aload_n hc dX2_link_94 rfl (hv_m 2 rfl) ?_
  refine hv_getR hc fl_X2_12 (sh_X2 hb) rfl dX2_link_95 ?_
  refine hv_iload_n hc dX2_link_98 rfl (hv_m 4 rfl) ?_
  refine hv_callVi hc (c_X1_holdsOf (b + 1) (hv_h2c hb) x2 m9) yv_X1_holdsOf tw_727 (sh_X1 (hv_h2c hb)) rfl rfl rfl rfl (Nat.le_of_ble_eq_true rfl) (Nat.le_of_ble_eq_true rfl) (Nat.zero_le _) (Nat.zero_le _) dX2_link_99 (fun r10 m11 => ?_)
  refine hv_iadd hc dX2_link_102 ?_
  refine hv_istore_s (lvf := fun y12 => [(7, .int (hv_I y12)), (6, .int (hv_I y7)), (5, .int (hv_I r3)), (0, .ref (hv_ad X b)), (1, .int (hv_I x1)), (2, .int (hv_I x2)), (4, .int (hv_I x4))]) hc dX2_link_103 (by decide) (fun _ => rfl) (fun y12 => ?_)
  refine hv_aload_n hc dX2_link_105 rfl (hv_m 3 rfl) ?_
  refine hv_getR hc fl_X2_12 (sh_X2 hb) rfl dX2_link_106 ?_
  refine hv_iload_n hc dX2_link_109 rfl (hv_m 4 rfl) ?_
  refine hv_callVi hc (c_X1_deepOf (b + 1) (hv_h2c hb) x1 m11) yv_X1_deepOf tw_728 (sh_X1 (hv_h2c hb)) rfl rfl rfl rfl (Nat.le_of_ble_eq_true rfl) (Nat.le_of_ble_eq_true rfl) (Nat.zero_le _) (Nat.zero_le _) dX2_link_110 (fun r13 m14 => ?_)
  refine hv_aload_n hc dX2_link_113 rfl (hv_m 3 rfl) ?_
  refine hv_getR hc fl_X2_12 (sh_X2 hb) rfl dX2_link_114 ?_
  refine hv_iload_n hc dX2_link_117 rfl (hv_m 5 rfl) ?_
  refine hv_callVi hc (c_X1_deepOf (b + 1) (hv_h2c hb) x2 m14) yv_X1_deepOf tw_728 (sh_X1 (hv_h2c hb)) rfl rfl rfl rfl (Nat.le_of_ble_eq_true rfl) (Nat.le_of_ble_eq_true rfl) (Nat.zero_le _) (Nat.zero_le _) dX2_link_118 (fun r15 m16 => ?_)
  refine hv_callSi hc (c_J9_max_7cf53 r13 r15 m16) ys_J9_max_7cf53 tw_729 rfl rfl rfl (Nat.le_of_ble_eq_true rfl) (Nat.le_of_ble_eq_true rfl) (Nat.zero_le _) (Nat.zero_le _) dX2_link_121 (fun r17 m18 => ?_)
  refine hv_istore (lv' := [(8, .int (hv_I r17)), (7, .int (hv_I y12)), (6, .int (hv_I y7)), (5, .int (hv_I r3)), (0, .ref (hv_ad X b)), (1, .int (hv_I x1)), (2, .int (hv_I x2)), (4, .int (hv_I x4))]) hc dX2_link_124 (by decide) rfl ?_
  refine hv_aload_n hc dX2_link_126 rfl (hv_m 4 rfl) ?_
  refine hv_getR hc fl_X2_12 (sh_X2 hb) rfl dX2_link_127 ?_
  refine hv_iload hc dX2_link_130 (hv_m 2 rfl) ?_
  refine hv_aload_n hc dX2_link_132 rfl (hv_m 4 rfl) ?_
  refine hv_getR hc fl_X2_12 (sh_X2 hb) rfl dX2_link_133 ?_
  refine hv_iload hc dX2_link_136 (hv_m 7 rfl) ?_
  refine hv_callVi hc (c_X1_headOf (b + 1) (hv_h2c hb) x4 m18) yv_X1_headOf tw_730 (sh_X1 (hv_h2c hb)) rfl rfl rfl rfl (Nat.le_of_ble_eq_true rfl) (Nat.le_of_ble_eq_true rfl) (Nat.zero_le _) (Nat.zero_le _) dX2_link_138 (fun r19 m20 => ?_)
  refine hv_aload_n hc dX2_link_141 rfl (hv_m 4 rfl) ?_
  refine hv_getR hc fl_X2_12 (sh_X2 hb) rfl dX2_link_142 ?_
  refine hv_iload hc dX2_link_145 (hv_m 7 rfl) ?_
  refine hv_callVi hc (c_X1_singlesOf (b + 1) (hv_h2c hb) x4 m20) yv_X1_singlesOf tw_734 (sh_X1 (hv_h2c hb)) rfl rfl rfl rfl (Nat.le_of_ble_eq_true rfl) (Nat.le_of_ble_eq_true rfl) (Nat.zero_le _) (Nat.zero_le _) dX2_link_147 (fun r21 m22 => ?_)
  refine hv_iload hc dX2_link_150 (hv_m 3 rfl) ?_
  refine hv_iload hc dX2_link_152 (hv_m 1 rfl) ?_
  refine hv_iload hc dX2_link_154 (hv_m 0 rfl) ?_
  refine hv_callVi hc (c_X1_tree (b + 1) (hv_h2c hb) y7 r19 r21 r3 y12 r17 m22) yv_X1_tree tw_738 (sh_X1 (hv_h2c hb)) rfl rfl rfl rfl (Nat.le_of_ble_eq_true rfl) (Nat.le_of_ble_eq_true rfl) (Nat.zero_le _) (Nat.zero_le _) dX2_link_156 (fun r23 m24 => ?_)
  exact hv_iret hc dX2_link_159
def J_X2_link_44 (b : Nat) (x1 x2 x3 s0 : Int) (mem : hMem) : hRs := hv_eq x3 0 (J_X2_link_59 b x1 x2 s0 x2 mem) (J_X2_link_59 b x1 x2 s0 x1 mem)
set_option maxRecDepth 100000 in
theorem g_X2_link_44 {X : hv_X} (hc : hv_C X cX2_link 9 RX2 (some FieldType.int) 1 0 0) (b : Nat) (hb : b = 26 ∨ b = 42) (x1 x2 x3 s0 : Int) (mem : hMem) : hv_R X 9 0 0 (hv_QX X 0 0 0) (J_X2_link_44 b x1 x2 x3 s0 mem) mem [] [(0, .ref (hv_ad X b)), (1, .int (hv_I x1)), (2, .int (hv_I x2)), (3, .int (hv_I x3))] [.int (hv_I s0)] 44 := by
  unfold J_X2_link_44
  refine hv_istore (lv' := [(4, .int (hv_I s0)), (0, .ref (hv_ad X b)), (1, .int (hv_I x1)), (2, .int (hv_I x2)), (3, .int (hv_I x3))]) hc dX2_link_44 (by decide) rfl ?_
  refine hv_aload_n hc dX2_link_46 rfl (hv_m 1 rfl) ?_
  refine hv_getR hc fl_X2_12 (sh_X2 hb) rfl dX2_link_47 ?_
  refine hv_iload_n hc dX2_link_50 rfl (hv_m 4 rfl) ?_
  refine hv_if_eq (tgt := 58) hc dX2_link_51 (by decide) ?_ ?_
  · refine hv_iload_n hc dX2_link_58 rfl (hv_m 3 rfl) ?_
    exact hv_pick [1, 2, 3, 0] rfl (g_X2_link_59 hc b hb x1 x2 s0 x2 mem)
  · refine hv_iload_n hc dX2_link_54 rfl (hv_m 2 rfl) ?_
    refine hv_goto (tgt := 59) hc dX2_link_55 (by decide) ?_
    exact hv_pick [1, 2, 3, 0] rfl (g_X2_link_59 hc b hb x1 x2 s0 x1 mem)
def J_X2_link_34 (b : Nat) (x1 x2 s0 : Int) (mem : hMem) : hRs := hv_eq s0 0 (J_X2_link_44 b x1 x2 s0 x1 mem) (J_X2_link_44 b x1 x2 s0 x2 mem)
set_option maxRecDepth 100000 in
theorem g_X2_link_34 {X : hv_X} (hc : hv_C X cX2_link 9 RX2 (some FieldType.int) 1 0 0) (b : Nat) (hb : b = 26 ∨ b = 42) (x1 x2 s0 : Int) (mem : hMem) : hv_R X 9 0 0 (hv_QX X 0 0 0) (J_X2_link_34 b x1 x2 s0 mem) mem [] [(0, .ref (hv_ad X b)), (1, .int (hv_I x1)), (2, .int (hv_I x2))] [.int (hv_I s0)] 34 := by
  unfold J_X2_link_34
  refine hv_istore_n (lv' := [(3, .int (hv_I s0)), (0, .ref (hv_ad X b)), (1, .int (hv_I x1)), (2, .int (hv_I x2))]) hc dX2_link_34 rfl (by decide) rfl ?_
  refine hv_iload_n hc dX2_link_35 rfl (hv_m 0 rfl) ?_
  refine hv_if_eq (tgt := 43) hc dX2_link_36 (by decide) ?_ ?_
  · refine hv_iload_n hc dX2_link_43 rfl (hv_m 2 rfl) ?_
    exact hv_pick [1, 2, 3, 0] rfl (g_X2_link_44 hc b hb x1 x2 s0 x1 mem)
  · refine hv_iload_n hc dX2_link_39 rfl (hv_m 3 rfl) ?_
    refine hv_goto (tgt := 44) hc dX2_link_40 (by decide) ?_
    exact hv_pick [1, 2, 3, 0] rfl (g_X2_link_44 hc b hb x1 x2 s0 x2 mem)
def f_X2_link (b : Nat) (x1 x2 : Int) (mem : hMem) : hRs := hv_put mem b 8 ((mem b 8) + 1) (fun m1 => hv_b (f_X1_turnOf (b + 1) x2 m1) (fun r2 m3 => hv_b (f_X1_turnOf (b + 1) x1 m3) (fun r4 m5 => hv_lt r2 r4 (J_X2_link_34 b x1 x2 1 m5) (J_X2_link_34 b x1 x2 0 m5))))
set_option maxRecDepth 100000 in
set_option maxHeartbeats 4000000 in
theorem c_X2_link (b : Nat) (hb : b = 26 ∨ b = 42) (x1 x2 : Int) (mem : hMem) : hv_Met 1 0 0 0 yX2_link cX2_link 9 (some FieldType.int) (fun ad _ _ => [.ref (ad b), .int (hv_I x1), .int (hv_I x2)]) mem (f_X2_link b x1 x2 mem) := by
  refine hv_start (by decide +kernel) (fun _ _ _ => Nat.le_of_ble_eq_true rfl) ?_
  intro X hc
  have hc : hv_C X cX2_link 9 RX2 (some FieldType.int) 1 0 0 := hc
  show hv_R X 9 0 0 (hv_QX X 0 0 0) (f_X2_link b x1 x2 mem) mem [] [(0, .ref (hv_ad X b)), (1, .int (hv_I x1)), (2, .int (hv_I x2))] [] 0
  unfold f_X2_link
  refine hv_aload_n hc dX2_link_0 rfl (hv_m 0 rfl) ?_
  refine hv_dup hc dX2_link_1 rfl ?_
  refine hv_getI hc fl_X2_74 (sh_X2 hb) rfl dX2_link_2 ?_
  refine hv_iconst hc dX2_link_5 ?_
  refine hv_iadd hc dX2_link_6 ?_
  refine hv_putI hc fp_X2_74 (sh_X2 hb) rfl dX2_link_7 (fun m1 => ?_)
  refine hv_aload_n hc dX2_link_10 rfl (hv_m 0 rfl) ?_
  refine hv_getR hc fl_X2_12 (sh_X2 hb) rfl dX2_link_11 ?_
  refine hv_iload_n hc dX2_link_14 rfl (hv_m 2 rfl) ?_
  refine hv_callVi hc (c_X1_turnOf (b + 1) (hv_h2c hb) x2 m1) yv_X1_turnOf tw_701 (sh_X1 (hv_h2c hb)) rfl rfl rfl rfl (Nat.le_of_ble_eq_true rfl) (Nat.le_of_ble_eq_true rfl) (Nat.zero_le _) (Nat.zero_le _) dX2_link_15 (fun r2 m3 => ?_)
  refine hv_aload_n hc dX2_link_18 rfl (hv_m 0 rfl) ?_
  refine hv_getR hc fl_X2_12 (sh_X2 hb) rfl dX2_link_19 ?_
  refine hv_iload_n hc dX2_link_22 rfl (hv_m 1 rfl) ?_
  refine hv_callVi hc (c_X1_turnOf (b + 1) (hv_h2c hb) x1 m3) yv_X1_turnOf tw_701 (sh_X1 (hv_h2c hb)) rfl rfl rfl rfl (Nat.le_of_ble_eq_true rfl) (Nat.le_of_ble_eq_true rfl) (Nat.zero_le _) (Nat.zero_le _) dX2_link_23 (fun r4 m5 => ?_)
  refine hv_icmp_ge (tgt := 33) hc dX2_link_26 (by decide) ?_ ?_
  · refine hv_iconst hc dX2_link_33 ?_
    exact hv_pick [0, 1, 2] rfl (g_X2_link_34 hc b hb x1 x2 0 m5)
  · refine hv_iconst hc dX2_link_29 ?_
    refine hv_goto (tgt := 34) hc dX2_link_30 (by decide) ?_
    exact hv_pick [0, 1, 2] rfl (g_X2_link_34 hc b hb x1 x2 1 m5)
def J_X2_linkBeside_59 (b : Nat) (x1 x2 x4 s0 : Int) (mem : hMem) : hRs := hv_b (f_X1_singlesOf (b + 1) x1 mem) (fun r1 m2 => hv_b (f_X1_row (b + 1) s0 r1 m2) (fun r3 m4 => hv_b (f_X1_holdsOf (b + 1) x1 m4) (fun r5 m6 => hv_b (f_X1_holdsOf (b + 1) x2 m6) (fun r7 m8 => hv_set (r5 + r7) (fun y9 => hv_b (f_X1_deepOf (b + 1) x1 m8) (fun r10 m11 => hv_b (f_X1_deepOf (b + 1) x2 m11) (fun r12 m13 => hv_b (f_J9_max_7cf53 r10 r12 m13) (fun r14 m15 => hv_b (f_X1_rankOf (b + 1) x1 m15) (fun r16 m17 => hv_b (f_X1_belowOf (b + 1) x1 m17) (fun r18 m19 => hv_b (f_X1_tree (b + 1) r16 x4 r3 r18 y9 r14 m19) (fun r20 m21 => hv_ret r20 m21)))))))))))
set_option maxRecDepth 100000 in
theorem g_X2_linkBeside_59 {X : hv_X} (hc : hv_C X cX2_linkBeside 9 RX2 (some FieldType.int) 1 0 0) (b : Nat) (hb : b = 26 ∨ b = 42) (x1 x2 x4 s0 : Int) (mem : hMem) : hv_R X 9 0 0 (hv_QX X 0 0 0) (J_X2_linkBeside_59 b x1 x2 x4 s0 mem) mem [] [(0, .ref (hv_ad X b)), (1, .int (hv_I x1)), (2, .int (hv_I x2)), (4, .int (hv_I x4))] [.int (hv_I s0)] 59 := by
  unfold J_X2_linkBeside_59
  refine hv_istore (lv' := [(5, .int (hv_I s0)), (0, .ref (hv_ad X b)), (1, .int (hv_I x1)), (2, .int (hv_I x2)), (4, .int (hv_I x4))]) hc dX2_linkBeside_59 (by decide) rfl ?_
  refine hv_aload_n hc dX2_linkBeside_61 rfl (hv_m 1 rfl) ?_
  refine hv_getR hc fl_X2_12 (sh_X2 hb) rfl dX2_linkBeside_62 ?_
  refine hv_iload hc dX2_linkBeside_65 (hv_m 0 rfl) ?_
  refine hv_aload_n hc dX2_linkBeside_67 rfl (hv_m 1 rfl) ?_
  refine hv_getR hc fl_X2_12 (sh_X2 hb) rfl dX2_linkBeside_68 ?_
  refine hv_iload_n hc dX2_linkBeside_71 rfl (hv_m 2 rfl) ?_
  refine hv_callVi hc (c_X1_singlesOf (b + 1) (hv_h2c hb) x1 mem) yv_X1_singlesOf tw_734 (sh_X1 (hv_h2c hb)) rfl rfl rfl rfl (Nat.le_of_ble_eq_true rfl) (Nat.le_of_ble_eq_true rfl) (Nat.zero_le _) (Nat.zero_le _) dX2_linkBeside_72 (fun r1 m2 => ?_)
  refine hv_callVi hc (c_X1_row (b + 1) (hv_h2c hb) s0 r1 m2) yv_X1_row tw_723 (sh_X1 (hv_h2c hb)) rfl rfl rfl rfl (Nat.le_of_ble_eq_true rfl) (Nat.le_of_ble_eq_true rfl) (Nat.zero_le _) (Nat.zero_le _) dX2_linkBeside_75 (fun r3 m4 => ?_)
  refine hv_istore (lv' := [(6, .int (hv_I r3)), (5, .int (hv_I s0)), (0, .ref (hv_ad X b)), (1, .int (hv_I x1)), (2, .int (hv_I x2)), (4, .int (hv_I x4))]) hc dX2_linkBeside_78 (by decide) rfl ?_
  refine hv_aload_n hc dX2_linkBeside_80 rfl (hv_m 2 rfl) ?_
  refine hv_getR hc fl_X2_12 (sh_X2 hb) rfl dX2_linkBeside_81 ?_
  refine hv_iload_n hc dX2_linkBeside_84 rfl (hv_m 3 rfl) ?_
  refine hv_callVi hc (c_X1_holdsOf (b + 1) (hv_h2c hb) x1 m4) yv_X1_holdsOf tw_727 (sh_X1 (hv_h2c hb)) rfl rfl rfl rfl (Nat.le_of_ble_eq_true rfl) (Nat.le_of_ble_eq_true rfl) (Nat.zero_le _) (Nat.zero_le _) dX2_linkBeside_85 (fun r5 m6 => ?_)
  refine hv_aload_n hc dX2_linkBeside_88 rfl (hv_m 2 rfl) ?_
  refine hv_getR hc fl_X2_12 (sh_X2 hb) rfl dX2_linkBeside_89 ?_
  refine hv_iload_n hc dX2_linkBeside_92 rfl (hv_m 4 rfl) ?_
  refine hv_callVi hc (c_X1_holdsOf (b + 1) (hv_h2c hb) x2 m6) yv_X1_holdsOf tw_727 (sh_X1 (hv_h2c hb)) rfl rfl rfl rfl (Nat.le_of_ble_eq_true rfl) (Nat.le_of_ble_eq_true rfl) (Nat.zero_le _) (Nat.zero_le _) dX2_linkBeside_93 (fun r7 m8 => ?_)
  refine hv_iadd hc dX2_linkBeside_96 ?_
  refine hv_istore_s (lvf := fun y9 => [(7, .int (hv_I y9)), (6, .int (hv_I r3)), (5, .int (hv_I s0)), (0, .ref (hv_ad X b)), (1, .int (hv_I x1)), (2, .int (hv_I x2)), (4, .int (hv_I x4))]) hc dX2_linkBeside_97 (by decide) (fun _ => rfl) (fun y9 => ?_)
  refine hv_aload_n hc dX2_linkBeside_99 rfl (hv_m 3 rfl) ?_
  refine hv_getR hc fl_X2_12 (sh_X2 hb) rfl dX2_linkBeside_100 ?_
  refine hv_iload_n hc dX2_linkBeside_103 rfl (hv_m 4 rfl) ?_
  refine hv_callVi hc (c_X1_deepOf (b + 1) (hv_h2c hb) x1 m8) yv_X1_deepOf tw_728 (sh_X1 (hv_h2c hb)) rfl rfl rfl rfl (Nat.le_of_ble_eq_true rfl) (Nat.le_of_ble_eq_true rfl) (Nat.zero_le _) (Nat.zero_le _) dX2_linkBeside_104 (fun r10 m11 => ?_)
  refine hv_aload_n hc dX2_linkBeside_107 rfl (hv_m 3 rfl) ?_
  refine hv_getR hc fl_X2_12 (sh_X2 hb) rfl dX2_linkBeside_108 ?_
  refine hv_iload_n hc dX2_linkBeside_111 rfl (hv_m 5 rfl) ?_
  refine hv_callVi hc (c_X1_deepOf (b + 1) (hv_h2c hb) x2 m11) yv_X1_deepOf tw_728 (sh_X1 (hv_h2c hb)) rfl rfl rfl rfl (Nat.le_of_ble_eq_true rfl) (Nat.le_of_ble_eq_true rfl) (Nat.zero_le _) (Nat.zero_le _) dX2_linkBeside_112 (fun r12 m13 => ?_)
  refine hv_callSi hc (c_J9_max_7cf53 r10 r12 m13) ys_J9_max_7cf53 tw_729 rfl rfl rfl (Nat.le_of_ble_eq_true rfl) (Nat.le_of_ble_eq_true rfl) (Nat.zero_le _) (Nat.zero_le _) dX2_linkBeside_115 (fun r14 m15 => ?_)
  refine hv_istore (lv' := [(8, .int (hv_I r14)), (7, .int (hv_I y9)), (6, .int (hv_I r3)), (5, .int (hv_I s0)), (0, .ref (hv_ad X b)), (1, .int (hv_I x1)), (2, .int (hv_I x2)), (4, .int (hv_I x4))]) hc dX2_linkBeside_118 (by decide) rfl ?_
  refine hv_aload_n hc dX2_linkBeside_120 rfl (hv_m 4 rfl) ?_
  refine hv_getR hc fl_X2_12 (sh_X2 hb) rfl dX2_linkBeside_121 ?_
  refine hv_aload_n hc dX2_linkBeside_124 rfl (hv_m 4 rfl) ?_
  refine hv_getR hc fl_X2_12 (sh_X2 hb) rfl dX2_linkBeside_125 ?_
  refine hv_iload_n hc dX2_linkBeside_128 rfl (hv_m 5 rfl) ?_
  refine hv_callVi hc (c_X1_rankOf (b + 1) (hv_h2c hb) x1 m15) yv_X1_rankOf tw_715 (sh_X1 (hv_h2c hb)) rfl rfl rfl rfl (Nat.le_of_ble_eq_true rfl) (Nat.le_of_ble_eq_true rfl) (Nat.zero_le _) (Nat.zero_le _) dX2_linkBeside_129 (fun r16 m17 => ?_)
  refine hv_iload hc dX2_linkBeside_132 (hv_m 7 rfl) ?_
  refine hv_iload hc dX2_linkBeside_134 (hv_m 2 rfl) ?_
  refine hv_aload_n hc dX2_linkBeside_136 rfl (hv_m 4 rfl) ?_
  refine hv_getR hc fl_X2_12 (sh_X2 hb) rfl dX2_linkBeside_137 ?_
  refine hv_iload_n hc dX2_linkBeside_140 rfl (hv_m 5 rfl) ?_
  refine hv_callVi hc (c_X1_belowOf (b + 1) (hv_h2c hb) x1 m17) yv_X1_belowOf tw_705 (sh_X1 (hv_h2c hb)) rfl rfl rfl rfl (Nat.le_of_ble_eq_true rfl) (Nat.le_of_ble_eq_true rfl) (Nat.zero_le _) (Nat.zero_le _) dX2_linkBeside_141 (fun r18 m19 => ?_)
  refine hv_iload hc dX2_linkBeside_144 (hv_m 1 rfl) ?_
  refine hv_iload hc dX2_linkBeside_146 (hv_m 0 rfl) ?_
  refine hv_callVi hc (c_X1_tree (b + 1) (hv_h2c hb) r16 x4 r3 r18 y9 r14 m19) yv_X1_tree tw_738 (sh_X1 (hv_h2c hb)) rfl rfl rfl rfl (Nat.le_of_ble_eq_true rfl) (Nat.le_of_ble_eq_true rfl) (Nat.zero_le _) (Nat.zero_le _) dX2_linkBeside_148 (fun r20 m21 => ?_)
  exact hv_iret hc dX2_linkBeside_151
def J_X2_linkBeside_41 (b : Nat) (x1 x2 x3 s0 : Int) (mem : hMem) : hRs := hv_eq x3 0 (hv_b (f_X1_headOf (b + 1) x1 mem) (fun r1 m2 => J_X2_linkBeside_59 b x1 x2 s0 r1 m2)) (J_X2_linkBeside_59 b x1 x2 s0 x2 mem)
set_option maxRecDepth 100000 in
theorem g_X2_linkBeside_41 {X : hv_X} (hc : hv_C X cX2_linkBeside 9 RX2 (some FieldType.int) 1 0 0) (b : Nat) (hb : b = 26 ∨ b = 42) (x1 x2 x3 s0 : Int) (mem : hMem) : hv_R X 9 0 0 (hv_QX X 0 0 0) (J_X2_linkBeside_41 b x1 x2 x3 s0 mem) mem [] [(0, .ref (hv_ad X b)), (1, .int (hv_I x1)), (2, .int (hv_I x2)), (3, .int (hv_I x3))] [.int (hv_I s0)] 41 := by
  unfold J_X2_linkBeside_41
  refine hv_istore (lv' := [(4, .int (hv_I s0)), (0, .ref (hv_ad X b)), (1, .int (hv_I x1)), (2, .int (hv_I x2)), (3, .int (hv_I x3))]) hc dX2_linkBeside_41 (by decide) rfl ?_
  refine hv_iload_n hc dX2_linkBeside_43 rfl (hv_m 4 rfl) ?_
  refine hv_if_eq (tgt := 51) hc dX2_linkBeside_44 (by decide) ?_ ?_
  · refine hv_aload_n hc dX2_linkBeside_51 rfl (hv_m 1 rfl) ?_
    refine hv_getR hc fl_X2_12 (sh_X2 hb) rfl dX2_linkBeside_52 ?_
    refine hv_iload_n hc dX2_linkBeside_55 rfl (hv_m 2 rfl) ?_
    refine hv_callVi hc (c_X1_headOf (b + 1) (hv_h2c hb) x1 mem) yv_X1_headOf tw_730 (sh_X1 (hv_h2c hb)) rfl rfl rfl rfl (Nat.le_of_ble_eq_true rfl) (Nat.le_of_ble_eq_true rfl) (Nat.zero_le _) (Nat.zero_le _) dX2_linkBeside_56 (fun r1 m2 => ?_)
    exact hv_pick [1, 2, 3, 0] rfl (g_X2_linkBeside_59 hc b hb x1 x2 s0 r1 m2)
  · refine hv_iload_n hc dX2_linkBeside_47 rfl (hv_m 3 rfl) ?_
    refine hv_goto (tgt := 59) hc dX2_linkBeside_48 (by decide) ?_
    exact hv_pick [1, 2, 3, 0] rfl (g_X2_linkBeside_59 hc b hb x1 x2 s0 x2 mem)
def J_X2_linkBeside_24 (b : Nat) (x1 x2 s0 : Int) (mem : hMem) : hRs := hv_eq s0 0 (J_X2_linkBeside_41 b x1 x2 s0 x2 mem) (hv_b (f_X1_headOf (b + 1) x1 mem) (fun r1 m2 => J_X2_linkBeside_41 b x1 x2 s0 r1 m2))
set_option maxRecDepth 100000 in
theorem g_X2_linkBeside_24 {X : hv_X} (hc : hv_C X cX2_linkBeside 9 RX2 (some FieldType.int) 1 0 0) (b : Nat) (hb : b = 26 ∨ b = 42) (x1 x2 s0 : Int) (mem : hMem) : hv_R X 9 0 0 (hv_QX X 0 0 0) (J_X2_linkBeside_24 b x1 x2 s0 mem) mem [] [(0, .ref (hv_ad X b)), (1, .int (hv_I x1)), (2, .int (hv_I x2))] [.int (hv_I s0)] 24 := by
  unfold J_X2_linkBeside_24
  refine hv_istore_n (lv' := [(3, .int (hv_I s0)), (0, .ref (hv_ad X b)), (1, .int (hv_I x1)), (2, .int (hv_I x2))]) hc dX2_linkBeside_24 rfl (by decide) rfl ?_
  refine hv_iload_n hc dX2_linkBeside_25 rfl (hv_m 0 rfl) ?_
  refine hv_if_eq (tgt := 40) hc dX2_linkBeside_26 (by decide) ?_ ?_
  · refine hv_iload_n hc dX2_linkBeside_40 rfl (hv_m 3 rfl) ?_
    exact hv_pick [1, 2, 3, 0] rfl (g_X2_linkBeside_41 hc b hb x1 x2 s0 x2 mem)
  · refine hv_aload_n hc dX2_linkBeside_29 rfl (hv_m 1 rfl) ?_
    refine hv_getR hc fl_X2_12 (sh_X2 hb) rfl dX2_linkBeside_30 ?_
    refine hv_iload_n hc dX2_linkBeside_33 rfl (hv_m 2 rfl) ?_
    refine hv_callVi hc (c_X1_headOf (b + 1) (hv_h2c hb) x1 mem) yv_X1_headOf tw_730 (sh_X1 (hv_h2c hb)) rfl rfl rfl rfl (Nat.le_of_ble_eq_true rfl) (Nat.le_of_ble_eq_true rfl) (Nat.zero_le _) (Nat.zero_le _) dX2_linkBeside_34 (fun r1 m2 => ?_)
    refine hv_goto (tgt := 41) hc dX2_linkBeside_37 (by decide) ?_
    exact hv_pick [1, 2, 3, 0] rfl (g_X2_linkBeside_41 hc b hb x1 x2 s0 r1 m2)
def f_X2_linkBeside (b : Nat) (x1 x2 : Int) (mem : hMem) : hRs := hv_b (f_X1_turnOf (b + 1) x1 mem) (fun r1 m2 => hv_b (f_X1_turnOf (b + 1) x2 m2) (fun r3 m4 => hv_lt r1 r3 (J_X2_linkBeside_24 b x1 x2 1 m4) (J_X2_linkBeside_24 b x1 x2 0 m4)))
set_option maxRecDepth 100000 in
set_option maxHeartbeats 4000000 in
theorem c_X2_linkBeside (b : Nat) (hb : b = 26 ∨ b = 42) (x1 x2 : Int) (mem : hMem) : hv_Met 1 0 0 0 yX2_linkBeside cX2_linkBeside 9 (some FieldType.int) (fun ad _ _ => [.ref (ad b), .int (hv_I x1), .int (hv_I x2)]) mem (f_X2_linkBeside b x1 x2 mem) := by
  refine hv_start (by decide +kernel) (fun _ _ _ => Nat.le_of_ble_eq_true rfl) ?_
  intro X hc
  have hc : hv_C X cX2_linkBeside 9 RX2 (some FieldType.int) 1 0 0 := hc
  show hv_R X 9 0 0 (hv_QX X 0 0 0) (f_X2_linkBeside b x1 x2 mem) mem [] [(0, .ref (hv_ad X b)), (1, .int (hv_I x1)), (2, .int (hv_I x2))] [] 0
  unfold f_X2_linkBeside
  refine hv_aload_n hc dX2_linkBeside_0 rfl (hv_m 0 rfl) ?_
  refine hv_getR hc fl_X2_12 (sh_X2 hb) rfl dX2_linkBeside_1 ?_
  refine hv_iload_n hc dX2_linkBeside_4 rfl (hv_m 1 rfl) ?_
  refine hv_callVi hc (c_X1_turnOf (b + 1) (hv_h2c hb) x1 mem) yv_X1_turnOf tw_701 (sh_X1 (hv_h2c hb)) rfl rfl rfl rfl (Nat.le_of_ble_eq_true rfl) (Nat.le_of_ble_eq_true rfl) (Nat.zero_le _) (Nat.zero_le _) dX2_linkBeside_5 (fun r1 m2 => ?_)
  refine hv_aload_n hc dX2_linkBeside_8 rfl (hv_m 0 rfl) ?_
  refine hv_getR hc fl_X2_12 (sh_X2 hb) rfl dX2_linkBeside_9 ?_
  refine hv_iload_n hc dX2_linkBeside_12 rfl (hv_m 2 rfl) ?_
  refine hv_callVi hc (c_X1_turnOf (b + 1) (hv_h2c hb) x2 m2) yv_X1_turnOf tw_701 (sh_X1 (hv_h2c hb)) rfl rfl rfl rfl (Nat.le_of_ble_eq_true rfl) (Nat.le_of_ble_eq_true rfl) (Nat.zero_le _) (Nat.zero_le _) dX2_linkBeside_13 (fun r3 m4 => ?_)
  refine hv_icmp_ge (tgt := 23) hc dX2_linkBeside_16 (by decide) ?_ ?_
  · refine hv_iconst hc dX2_linkBeside_23 ?_
    exact hv_pick [0, 1, 2] rfl (g_X2_linkBeside_24 hc b hb x1 x2 0 m4)
  · refine hv_iconst hc dX2_linkBeside_19 ?_
    refine hv_goto (tgt := 24) hc dX2_linkBeside_20 (by decide) ?_
    exact hv_pick [0, 1, 2] rfl (g_X2_linkBeside_24 hc b hb x1 x2 1 m4)
def J_X2_carry_88 (b : Nat) (x3 x4 : Int) (mem : hMem) : hRs := hv_b (f_X1_row (b + 1) x3 x4 mem) (fun r1 m2 => hv_ret r1 m2)
set_option maxRecDepth 100000 in
theorem g_X2_carry_88 {X : hv_X} (hc : hv_C X cX2_carry 6 RX2 (some FieldType.int) 2 0 0) (b : Nat) (hb : b = 26 ∨ b = 42) (x3 x4 : Int) (mem : hMem) : hv_R X 6 0 0 (hv_QX X 0 0 0) (J_X2_carry_88 b x3 x4 mem) mem [] [(0, .ref (hv_ad X b)), (3, .int (hv_I x3)), (4, .int (hv_I x4))] [] 88 := by
  unfold J_X2_carry_88
  refine hv_aload_n hc dX2_carry_88 rfl (hv_m 0 rfl) ?_
  refine hv_getR hc fl_X2_12 (sh_X2 hb) rfl dX2_carry_89 ?_
  refine hv_iload_n hc dX2_carry_92 rfl (hv_m 1 rfl) ?_
  refine hv_iload hc dX2_carry_93 (hv_m 2 rfl) ?_
  refine hv_callVi hc (c_X1_row (b + 1) (hv_h2c hb) x3 x4 mem) yv_X1_row tw_723 (sh_X1 (hv_h2c hb)) rfl rfl rfl rfl (Nat.le_of_ble_eq_true rfl) (Nat.le_of_ble_eq_true rfl) (Nat.zero_le _) (Nat.zero_le _) dX2_carry_95 (fun r1 m2 => ?_)
  exact hv_iret hc dX2_carry_98
def B_X2_carry_14 (b : Nat) (R14 : Int → Int → Int → hMem → hRs) (x3 x4 x5 : Int) (mem : hMem) : hRs := hv_lt x5 64 (hv_eq x4 0 (J_X2_carry_88 b x3 x4 mem) (hv_b (f_X1_rankOf (b + 1) x3 mem) (fun r1 m2 => hv_b (f_X1_firstOf (b + 1) x4 m2) (fun r3 m4 => hv_b (f_X1_rankOf (b + 1) r3 m4) (fun r5 m6 => hv_lt r1 r5 (J_X2_carry_88 b x3 x4 m6) (hv_b (f_X1_firstOf (b + 1) x4 m6) (fun r7 m8 => hv_b (f_X2_link b x3 r7 m8) (fun r9 m10 => hv_b (f_X1_restOf (b + 1) x4 m10) (fun r11 m12 => hv_set (x5 + 1) (fun y13 => R14 r9 r11 y13 m12)))))))))) (J_X2_carry_88 b x3 x4 mem)
def L_X2_carry_14 (b : Nat) : Nat → Int → Int → Int → hMem → hRs
  | 0 => fun _ _ _ _ => none
  | n + 1 => B_X2_carry_14 b (L_X2_carry_14 b n)
set_option maxRecDepth 100000 in
theorem gB_X2_carry_14 {X : hv_X} (hc : hv_C X cX2_carry 6 RX2 (some FieldType.int) 2 0 0) (b : Nat) (hb : b = 26 ∨ b = 42) (R14 : Int → Int → Int → hMem → hRs) (hR14 : ∀ (x3 x4 x5 : Int) (mem : hMem), hv_R X 6 0 0 (hv_QX X 0 0 0) (R14 x3 x4 x5 mem) mem [] [(0, .ref (hv_ad X b)), (3, .int (hv_I x3)), (4, .int (hv_I x4)), (5, .int (hv_I x5))] [] 14) (x3 x4 x5 : Int) (mem : hMem) : hv_R X 6 0 0 (hv_QX X 0 0 0) (B_X2_carry_14 b R14 x3 x4 x5 mem) mem [] [(0, .ref (hv_ad X b)), (3, .int (hv_I x3)), (4, .int (hv_I x4)), (5, .int (hv_I x5))] [] 14 := by
  unfold B_X2_carry_14
  refine hv_iload hc dX2_carry_14 (hv_m 3 rfl) ?_
  refine hv_bipush hc dX2_carry_16 (by decide) ?_
  refine hv_icmp_ge (tgt := 88) hc dX2_carry_18 (by decide) ?_ ?_
  · exact hv_pick [0, 1, 2] rfl (g_X2_carry_88 hc b hb x3 x4 mem)
  · refine hv_iload hc dX2_carry_21 (hv_m 2 rfl) ?_
    refine hv_if_eq (tgt := 88) hc dX2_carry_23 (by decide) ?_ ?_
    · exact hv_pick [0, 1, 2] rfl (g_X2_carry_88 hc b hb x3 x4 mem)
    · refine hv_aload_n hc dX2_carry_26 rfl (hv_m 0 rfl) ?_
      refine hv_getR hc fl_X2_12 (sh_X2 hb) rfl dX2_carry_27 ?_
      refine hv_iload_n hc dX2_carry_30 rfl (hv_m 1 rfl) ?_
      refine hv_callVi hc (c_X1_rankOf (b + 1) (hv_h2c hb) x3 mem) yv_X1_rankOf tw_715 (sh_X1 (hv_h2c hb)) rfl rfl rfl rfl (Nat.le_of_ble_eq_true rfl) (Nat.le_of_ble_eq_true rfl) (Nat.zero_le _) (Nat.zero_le _) dX2_carry_31 (fun r1 m2 => ?_)
      refine hv_aload_n hc dX2_carry_34 rfl (hv_m 0 rfl) ?_
      refine hv_getR hc fl_X2_12 (sh_X2 hb) rfl dX2_carry_35 ?_
      refine hv_aload_n hc dX2_carry_38 rfl (hv_m 0 rfl) ?_
      refine hv_getR hc fl_X2_12 (sh_X2 hb) rfl dX2_carry_39 ?_
      refine hv_iload hc dX2_carry_42 (hv_m 2 rfl) ?_
      refine hv_callVi hc (c_X1_firstOf (b + 1) (hv_h2c hb) x4 m2) yv_X1_firstOf tw_713 (sh_X1 (hv_h2c hb)) rfl rfl rfl rfl (Nat.le_of_ble_eq_true rfl) (Nat.le_of_ble_eq_true rfl) (Nat.zero_le _) (Nat.zero_le _) dX2_carry_44 (fun r3 m4 => ?_)
      refine hv_callVi hc (c_X1_rankOf (b + 1) (hv_h2c hb) r3 m4) yv_X1_rankOf tw_715 (sh_X1 (hv_h2c hb)) rfl rfl rfl rfl (Nat.le_of_ble_eq_true rfl) (Nat.le_of_ble_eq_true rfl) (Nat.zero_le _) (Nat.zero_le _) dX2_carry_47 (fun r5 m6 => ?_)
      refine hv_icmp_ge (tgt := 56) hc dX2_carry_50 (by decide) ?_ ?_
      · refine hv_aload_n hc dX2_carry_56 rfl (hv_m 0 rfl) ?_
        refine hv_iload_n hc dX2_carry_57 rfl (hv_m 1 rfl) ?_
        refine hv_aload_n hc dX2_carry_58 rfl (hv_m 0 rfl) ?_
        refine hv_getR hc fl_X2_12 (sh_X2 hb) rfl dX2_carry_59 ?_
        refine hv_iload hc dX2_carry_62 (hv_m 2 rfl) ?_
        refine hv_callVi hc (c_X1_firstOf (b + 1) (hv_h2c hb) x4 m6) yv_X1_firstOf tw_713 (sh_X1 (hv_h2c hb)) rfl rfl rfl rfl (Nat.le_of_ble_eq_true rfl) (Nat.le_of_ble_eq_true rfl) (Nat.zero_le _) (Nat.zero_le _) dX2_carry_64 (fun r7 m8 => ?_)
        refine hv_callVi hc (c_X2_link b hb x3 r7 m8) yv_X2_link tw_719 (sh_X2 hb) rfl rfl rfl rfl (Nat.le_of_ble_eq_true rfl) (Nat.le_of_ble_eq_true rfl) (Nat.zero_le _) (Nat.zero_le _) dX2_carry_67 (fun r9 m10 => ?_)
        refine hv_istore_n (lv' := [(3, .int (hv_I r9)), (0, .ref (hv_ad X b)), (4, .int (hv_I x4)), (5, .int (hv_I x5))]) hc dX2_carry_70 rfl (by decide) rfl ?_
        refine hv_aload_n hc dX2_carry_71 rfl (hv_m 1 rfl) ?_
        refine hv_getR hc fl_X2_12 (sh_X2 hb) rfl dX2_carry_72 ?_
        refine hv_iload hc dX2_carry_75 (hv_m 2 rfl) ?_
        refine hv_callVi hc (c_X1_restOf (b + 1) (hv_h2c hb) x4 m10) yv_X1_restOf tw_714 (sh_X1 (hv_h2c hb)) rfl rfl rfl rfl (Nat.le_of_ble_eq_true rfl) (Nat.le_of_ble_eq_true rfl) (Nat.zero_le _) (Nat.zero_le _) dX2_carry_77 (fun r11 m12 => ?_)
        refine hv_istore (lv' := [(4, .int (hv_I r11)), (3, .int (hv_I r9)), (0, .ref (hv_ad X b)), (5, .int (hv_I x5))]) hc dX2_carry_80 (by decide) rfl ?_
        refine hv_iinc_s (lvf := fun y13 => [(5, .int (hv_I y13)), (4, .int (hv_I r11)), (3, .int (hv_I r9)), (0, .ref (hv_ad X b))]) hc dX2_carry_82 (by decide) (hv_m 3 rfl) (fun _ => rfl) (fun y13 => ?_)
        refine hv_goto (tgt := 14) hc dX2_carry_85 (by decide) ?_
        exact hv_pick [3, 2, 1, 0] rfl (hR14 r9 r11 y13 m12)
      · refine hv_goto (tgt := 88) hc dX2_carry_53 (by decide) ?_
        exact hv_pick [0, 1, 2] rfl (g_X2_carry_88 hc b hb x3 x4 m6)
theorem g_X2_carry_14 {X : hv_X} (hc : hv_C X cX2_carry 6 RX2 (some FieldType.int) 2 0 0) (b : Nat) (hb : b = 26 ∨ b = 42) : ∀ (n : Nat) (x3 x4 x5 : Int) (mem : hMem), hv_R X 6 0 0 (hv_QX X 0 0 0) (L_X2_carry_14 b n x3 x4 x5 mem) mem [] [(0, .ref (hv_ad X b)), (3, .int (hv_I x3)), (4, .int (hv_I x4)), (5, .int (hv_I x5))] [] 14 := by
  intro n
  induction n with
  | zero => intros; exact hv_none
  | succ n ih => exact gB_X2_carry_14 hc b hb _ ih
def f_X2_carry (b : Nat) (x1 x2 : Int) (mem : hMem) : hRs := hv_eq x1 0 (hv_ret x2 mem) (L_X2_carry_14 b hv_FU x1 x2 0 mem)
set_option maxRecDepth 100000 in
set_option maxHeartbeats 4000000 in
theorem c_X2_carry (b : Nat) (hb : b = 26 ∨ b = 42) (x1 x2 : Int) (mem : hMem) : hv_Met 2 0 0 0 yX2_carry cX2_carry 6 (some FieldType.int) (fun ad _ _ => [.ref (ad b), .int (hv_I x1), .int (hv_I x2)]) mem (f_X2_carry b x1 x2 mem) := by
  refine hv_start (by decide +kernel) (fun _ _ _ => Nat.le_of_ble_eq_true rfl) ?_
  intro X hc
  have hc : hv_C X cX2_carry 6 RX2 (some FieldType.int) 2 0 0 := hc
  show hv_R X 6 0 0 (hv_QX X 0 0 0) (f_X2_carry b x1 x2 mem) mem [] [(0, .ref (hv_ad X b)), (1, .int (hv_I x1)), (2, .int (hv_I x2))] [] 0
  unfold f_X2_carry
  refine hv_iload_n hc dX2_carry_0 rfl (hv_m 1 rfl) ?_
  refine hv_if_ne (tgt := 6) hc dX2_carry_1 (by decide) ?_ ?_
  · refine hv_iload_n hc dX2_carry_6 rfl (hv_m 1 rfl) ?_
    refine hv_istore_n (lv' := [(3, .int (hv_I x1)), (0, .ref (hv_ad X b)), (1, .int (hv_I x1)), (2, .int (hv_I x2))]) hc dX2_carry_7 rfl (by decide) rfl ?_
    refine hv_iload_n hc dX2_carry_8 rfl (hv_m 3 rfl) ?_
    refine hv_istore (lv' := [(4, .int (hv_I x2)), (3, .int (hv_I x1)), (0, .ref (hv_ad X b)), (1, .int (hv_I x1)), (2, .int (hv_I x2))]) hc dX2_carry_9 (by decide) rfl ?_
    refine hv_iconst hc dX2_carry_11 ?_
    refine hv_istore (lv' := [(5, .int (hv_I 0)), (4, .int (hv_I x2)), (3, .int (hv_I x1)), (0, .ref (hv_ad X b)), (1, .int (hv_I x1)), (2, .int (hv_I x2))]) hc dX2_carry_12 (by decide) rfl ?_
    exact hv_pick [3, 2, 1, 0] rfl (g_X2_carry_14 hc b hb hv_FU x1 x2 0 mem)
  · refine hv_iload_n hc dX2_carry_4 rfl (hv_m 2 rfl) ?_
    exact hv_iret hc dX2_carry_5
