def f_X11_lean (mem : hMem) : hRs := hv_ald mem 66 216 5 (fun v1 => hv_eq v1 0 (hv_ret ((-2)) mem) (hv_b (f_X11_allBy 1 mem) (fun r2 m3 => hv_b (f_X11_allBy 0 m3) (fun r4 m5 => hv_lt r2 r4 (hv_ret 1 m5) (hv_ret 0 m5)))))
set_option maxRecDepth 100000 in
set_option maxHeartbeats 4000000 in
theorem c_X11_lean (mem : hMem) : hv_Met 77 0 0 0 yX11_lean cX11_lean 1 (some FieldType.int) (fun ad _ _ => [.ref (ad 65)]) mem (f_X11_lean mem) := by
  refine hv_start (by decide +kernel) (fun _ _ _ => Nat.le_of_ble_eq_true rfl) ?_
  intro X hc
  have hc : hv_C X cX11_lean 1 RX11 (some FieldType.int) 77 0 0 := hc
  show hv_R X 1 0 0 (hv_QX X 0 0 0) (f_X11_lean mem) mem [] [(0, .ref (hv_ad X 65))] [] 0
  unfold f_X11_lean
  refine hv_aload_n hc dX11_lean_0 rfl (hv_m 0 rfl) ?_
  refine hv_getR hc fl_X11_9 sh_o_65 rfl dX11_lean_1 ?_
  refine hv_iconst hc dX11_lean_4 ?_
  refine hv_iaload hc sh_a_66 (Nat.le_of_ble_eq_true rfl) dX11_lean_5 (fun v1 => ?_)
  refine hv_if_ne (tgt := 14) hc dX11_lean_6 (by decide) ?_ ?_
  · refine hv_aload_n hc dX11_lean_14 rfl (hv_m 0 rfl) ?_
    refine hv_iconst hc dX11_lean_15 ?_
    refine hv_callVi hc (c_X11_allBy 1 mem) yv_X11_allBy tw_1513 sh_o_65 rfl rfl rfl rfl (Nat.le_of_ble_eq_true rfl) (Nat.le_of_ble_eq_true rfl) (Nat.zero_le _) (Nat.zero_le _) dX11_lean_16 (fun r2 m3 => ?_)
    refine hv_aload_n hc dX11_lean_19 rfl (hv_m 0 rfl) ?_
    refine hv_iconst hc dX11_lean_20 ?_
    refine hv_callVi hc (c_X11_allBy 0 m3) yv_X11_allBy tw_1513 sh_o_65 rfl rfl rfl rfl (Nat.le_of_ble_eq_true rfl) (Nat.le_of_ble_eq_true rfl) (Nat.zero_le _) (Nat.zero_le _) dX11_lean_21 (fun r4 m5 => ?_)
    refine hv_icmp_ge (tgt := 31) hc dX11_lean_24 (by decide) ?_ ?_
    · refine hv_iconst hc dX11_lean_31 ?_
      exact hv_iret hc dX11_lean_32
    · refine hv_iconst hc dX11_lean_27 ?_
      refine hv_goto (tgt := 32) hc dX11_lean_28 (by decide) ?_
      exact hv_iret hc dX11_lean_32
  · refine hv_bipush hc dX11_lean_9 (by decide) ?_
    refine hv_goto (tgt := 32) hc dX11_lean_11 (by decide) ?_
    exact hv_iret hc dX11_lean_32
def B_X11_drained_12 (R12 : Int → Int → Int → Int → hMem → hRs) (x2 x3 x4 x5 : Int) (mem : hMem) : hRs := hv_lt x3 0 (hv_eq x2 0 (hv_ret x4 mem) (hv_ret x5 mem)) (hv_put mem 65 22 0 (fun m1 => hv_ald m1 66 216 0 (fun v2 => hv_b (f_X11_takes v2 x3 m1) (fun r3 m4 => hv_set (x4 + (m4 65 22)) (fun y5 => hv_b (f_J9_max_7cf53 x5 (m4 65 22) m4) (fun r6 m7 => R12 x2 r3 y5 r6 m7))))))
def L_X11_drained_12 : Nat → Int → Int → Int → Int → hMem → hRs
  | 0 => fun _ _ _ _ _ => none
  | n + 1 => B_X11_drained_12 (L_X11_drained_12 n)
set_option maxRecDepth 100000 in
theorem gB_X11_drained_12 {X : hv_X} (hc : hv_C X cX11_drained 6 RX11 (some FieldType.int) 77 0 0) (R12 : Int → Int → Int → Int → hMem → hRs) (hR12 : ∀ (x2 x3 x4 x5 : Int) (mem : hMem), hv_R X 6 0 0 (hv_QX X 0 0 0) (R12 x2 x3 x4 x5 mem) mem [] [(0, .ref (hv_ad X 65)), (2, .int (hv_I x2)), (3, .int (hv_I x3)), (4, .int (hv_I x4)), (5, .int (hv_I x5))] [] 12) (x2 x3 x4 x5 : Int) (mem : hMem) : hv_R X 6 0 0 (hv_QX X 0 0 0) (B_X11_drained_12 R12 x2 x3 x4 x5 mem) mem [] [(0, .ref (hv_ad X 65)), (2, .int (hv_I x2)), (3, .int (hv_I x3)), (4, .int (hv_I x4)), (5, .int (hv_I x5))] [] 12 := by
  unfold B_X11_drained_12
  refine hv_iload_n hc dX11_drained_12 rfl (hv_m 2 rfl) ?_
  refine hv_if_lt (tgt := 56) hc dX11_drained_13 (by decide) ?_ ?_
  · refine hv_iload_n hc dX11_drained_56 rfl (hv_m 1 rfl) ?_
    refine hv_if_eq (tgt := 65) hc dX11_drained_57 (by decide) ?_ ?_
    · refine hv_iload hc dX11_drained_65 (hv_m 3 rfl) ?_
      exact hv_iret hc dX11_drained_67
    · refine hv_iload hc dX11_drained_60 (hv_m 4 rfl) ?_
      refine hv_goto (tgt := 67) hc dX11_drained_62 (by decide) ?_
      exact hv_iret hc dX11_drained_67
  · refine hv_aload_n hc dX11_drained_16 rfl (hv_m 0 rfl) ?_
    refine hv_iconst hc dX11_drained_17 ?_
    refine hv_putI hc fp_X11_198 sh_o_65 rfl dX11_drained_18 (fun m1 => ?_)
    refine hv_aload_n hc dX11_drained_21 rfl (hv_m 0 rfl) ?_
    refine hv_aload_n hc dX11_drained_22 rfl (hv_m 0 rfl) ?_
    refine hv_getR hc fl_X11_9 sh_o_65 rfl dX11_drained_23 ?_
    refine hv_iconst hc dX11_drained_26 ?_
    refine hv_iaload hc sh_a_66 (Nat.le_of_ble_eq_true rfl) dX11_drained_27 (fun v2 => ?_)
    refine hv_iload_n hc dX11_drained_28 rfl (hv_m 2 rfl) ?_
    refine hv_callVi hc (c_X11_takes v2 x3 m1) yv_X11_takes tw_1356 sh_o_65 rfl rfl rfl rfl (Nat.le_of_ble_eq_true rfl) (Nat.le_of_ble_eq_true rfl) (Nat.zero_le _) (Nat.zero_le _) dX11_drained_29 (fun r3 m4 => ?_)
    refine hv_istore_n (lv' := [(3, .int (hv_I r3)), (0, .ref (hv_ad X 65)), (2, .int (hv_I x2)), (4, .int (hv_I x4)), (5, .int (hv_I x5))]) hc dX11_drained_32 rfl (by decide) rfl ?_
    refine hv_iload hc dX11_drained_33 (hv_m 3 rfl) ?_
    refine hv_aload_n hc dX11_drained_35 rfl (hv_m 1 rfl) ?_
    refine hv_getI hc fl_X11_198 sh_o_65 rfl dX11_drained_36 ?_
    refine hv_iadd hc dX11_drained_39 ?_
    refine hv_istore_s (lvf := fun y5 => [(4, .int (hv_I y5)), (3, .int (hv_I r3)), (0, .ref (hv_ad X 65)), (2, .int (hv_I x2)), (5, .int (hv_I x5))]) hc dX11_drained_40 (by decide) (fun _ => rfl) (fun y5 => ?_)
    refine hv_iload hc dX11_drained_42 (hv_m 4 rfl) ?_
    refine hv_aload_n hc dX11_drained_44 rfl (hv_m 2 rfl) ?_
    refine hv_getI hc fl_X11_198 sh_o_65 rfl dX11_drained_45 ?_
    refine hv_callSi hc (c_J9_max_7cf53 x5 (m4 65 22) m4) ys_J9_max_7cf53 tw_1472 rfl rfl rfl (Nat.le_of_ble_eq_true rfl) (Nat.le_of_ble_eq_true rfl) (Nat.zero_le _) (Nat.zero_le _) dX11_drained_48 (fun r6 m7 => ?_)
    refine hv_istore (lv' := [(5, .int (hv_I r6)), (4, .int (hv_I y5)), (3, .int (hv_I r3)), (0, .ref (hv_ad X 65)), (2, .int (hv_I x2))]) hc dX11_drained_51 (by decide) rfl ?_
    refine hv_goto (tgt := 12) hc dX11_drained_53 (by decide) ?_
    exact hv_pick [3, 4, 2, 1, 0] rfl (hR12 x2 r3 y5 r6 m7)
theorem g_X11_drained_12 {X : hv_X} (hc : hv_C X cX11_drained 6 RX11 (some FieldType.int) 77 0 0) : ∀ (n : Nat) (x2 x3 x4 x5 : Int) (mem : hMem), hv_R X 6 0 0 (hv_QX X 0 0 0) (L_X11_drained_12 n x2 x3 x4 x5 mem) mem [] [(0, .ref (hv_ad X 65)), (2, .int (hv_I x2)), (3, .int (hv_I x3)), (4, .int (hv_I x4)), (5, .int (hv_I x5))] [] 12 := by
  intro n
  induction n with
  | zero => intros; exact hv_none
  | succ n ih => exact gB_X11_drained_12 hc _ ih
def f_X11_drained (x1 x2 : Int) (mem : hMem) : hRs := hv_b (f_X11_heapOf x1 mem) (fun r1 m2 => L_X11_drained_12 hv_FU x2 r1 0 0 m2)
set_option maxRecDepth 100000 in
set_option maxHeartbeats 4000000 in
theorem c_X11_drained (x1 x2 : Int) (mem : hMem) : hv_Met 77 0 0 0 yX11_drained cX11_drained 6 (some FieldType.int) (fun ad _ _ => [.ref (ad 65), .int (hv_I x1), .int (hv_I x2)]) mem (f_X11_drained x1 x2 mem) := by
  refine hv_start (by decide +kernel) (fun _ _ _ => Nat.le_of_ble_eq_true rfl) ?_
  intro X hc
  have hc : hv_C X cX11_drained 6 RX11 (some FieldType.int) 77 0 0 := hc
  show hv_R X 6 0 0 (hv_QX X 0 0 0) (f_X11_drained x1 x2 mem) mem [] [(0, .ref (hv_ad X 65)), (1, .int (hv_I x1)), (2, .int (hv_I x2))] [] 0
  unfold f_X11_drained
  refine hv_aload_n hc dX11_drained_0 rfl (hv_m 0 rfl) ?_
  refine hv_iload_n hc dX11_drained_1 rfl (hv_m 1 rfl) ?_
  refine hv_callVi hc (c_X11_heapOf x1 mem) yv_X11_heapOf tw_1388 sh_o_65 rfl rfl rfl rfl (Nat.le_of_ble_eq_true rfl) (Nat.le_of_ble_eq_true rfl) (Nat.zero_le _) (Nat.zero_le _) dX11_drained_2 (fun r1 m2 => ?_)
  refine hv_istore_n (lv' := [(3, .int (hv_I r1)), (0, .ref (hv_ad X 65)), (1, .int (hv_I x1)), (2, .int (hv_I x2))]) hc dX11_drained_5 rfl (by decide) rfl ?_
  refine hv_iconst hc dX11_drained_6 ?_
  refine hv_istore (lv' := [(4, .int (hv_I 0)), (3, .int (hv_I r1)), (0, .ref (hv_ad X 65)), (1, .int (hv_I x1)), (2, .int (hv_I x2))]) hc dX11_drained_7 (by decide) rfl ?_
  refine hv_iconst hc dX11_drained_9 ?_
  refine hv_istore (lv' := [(5, .int (hv_I 0)), (4, .int (hv_I 0)), (3, .int (hv_I r1)), (0, .ref (hv_ad X 65)), (1, .int (hv_I x1)), (2, .int (hv_I x2))]) hc dX11_drained_10 (by decide) rfl ?_
  exact hv_pick [3, 5, 2, 1, 0] rfl (g_X11_drained_12 hc hv_FU x2 r1 0 0 m2)
def f_X11_drain (x1 : Int) (mem : hMem) : hRs := hv_b (f_X11_isVersion x1 mem) (fun r1 m2 => hv_eq r1 0 (hv_ret ((-2)) m2) (hv_b (f_X11_drained x1 0 m2) (fun r3 m4 => hv_ret r3 m4)))
set_option maxRecDepth 100000 in
set_option maxHeartbeats 4000000 in
theorem c_X11_drain (x1 : Int) (mem : hMem) : hv_Met 78 0 0 0 yX11_drain cX11_drain 2 (some FieldType.int) (fun ad _ _ => [.ref (ad 65), .int (hv_I x1)]) mem (f_X11_drain x1 mem) := by
  refine hv_start (by decide +kernel) (fun _ _ _ => Nat.le_of_ble_eq_true rfl) ?_
  intro X hc
  have hc : hv_C X cX11_drain 2 RX11 (some FieldType.int) 78 0 0 := hc
  show hv_R X 2 0 0 (hv_QX X 0 0 0) (f_X11_drain x1 mem) mem [] [(0, .ref (hv_ad X 65)), (1, .int (hv_I x1))] [] 0
  unfold f_X11_drain
  refine hv_aload_n hc dX11_drain_0 rfl (hv_m 0 rfl) ?_
  refine hv_iload_n hc dX11_drain_1 rfl (hv_m 1 rfl) ?_
  refine hv_callVi hc (c_X11_isVersion x1 mem) yv_X11_isVersion tw_1308 sh_o_65 rfl rfl rfl rfl (Nat.le_of_ble_eq_true rfl) (Nat.le_of_ble_eq_true rfl) (Nat.zero_le _) (Nat.zero_le _) dX11_drain_2 (fun r1 m2 => ?_)
  refine hv_if_eq (tgt := 17) hc dX11_drain_5 (by decide) ?_ ?_
  · refine hv_bipush hc dX11_drain_17 (by decide) ?_
    exact hv_iret hc dX11_drain_19
  · refine hv_aload_n hc dX11_drain_8 rfl (hv_m 0 rfl) ?_
    refine hv_iload_n hc dX11_drain_9 rfl (hv_m 1 rfl) ?_
    refine hv_iconst hc dX11_drain_10 ?_
    refine hv_callVi hc (c_X11_drained x1 0 m2) yv_X11_drained tw_1526 sh_o_65 rfl rfl rfl rfl (Nat.le_of_ble_eq_true rfl) (Nat.le_of_ble_eq_true rfl) (Nat.zero_le _) (Nat.zero_le _) dX11_drain_11 (fun r3 m4 => ?_)
    refine hv_goto (tgt := 19) hc dX11_drain_14 (by decide) ?_
    exact hv_iret hc dX11_drain_19
def f_X11_dearest (x1 : Int) (mem : hMem) : hRs := hv_b (f_X11_isVersion x1 mem) (fun r1 m2 => hv_eq r1 0 (hv_ret ((-2)) m2) (hv_b (f_X11_drained x1 1 m2) (fun r3 m4 => hv_ret r3 m4)))
set_option maxRecDepth 100000 in
set_option maxHeartbeats 4000000 in
theorem c_X11_dearest (x1 : Int) (mem : hMem) : hv_Met 78 0 0 0 yX11_dearest cX11_dearest 2 (some FieldType.int) (fun ad _ _ => [.ref (ad 65), .int (hv_I x1)]) mem (f_X11_dearest x1 mem) := by
  refine hv_start (by decide +kernel) (fun _ _ _ => Nat.le_of_ble_eq_true rfl) ?_
  intro X hc
  have hc : hv_C X cX11_dearest 2 RX11 (some FieldType.int) 78 0 0 := hc
  show hv_R X 2 0 0 (hv_QX X 0 0 0) (f_X11_dearest x1 mem) mem [] [(0, .ref (hv_ad X 65)), (1, .int (hv_I x1))] [] 0
  unfold f_X11_dearest
  refine hv_aload_n hc dX11_dearest_0 rfl (hv_m 0 rfl) ?_
  refine hv_iload_n hc dX11_dearest_1 rfl (hv_m 1 rfl) ?_
  refine hv_callVi hc (c_X11_isVersion x1 mem) yv_X11_isVersion tw_1308 sh_o_65 rfl rfl rfl rfl (Nat.le_of_ble_eq_true rfl) (Nat.le_of_ble_eq_true rfl) (Nat.zero_le _) (Nat.zero_le _) dX11_dearest_2 (fun r1 m2 => ?_)
  refine hv_if_eq (tgt := 17) hc dX11_dearest_5 (by decide) ?_ ?_
  · refine hv_bipush hc dX11_dearest_17 (by decide) ?_
    exact hv_iret hc dX11_dearest_19
  · refine hv_aload_n hc dX11_dearest_8 rfl (hv_m 0 rfl) ?_
    refine hv_iload_n hc dX11_dearest_9 rfl (hv_m 1 rfl) ?_
    refine hv_iconst hc dX11_dearest_10 ?_
    refine hv_callVi hc (c_X11_drained x1 1 m2) yv_X11_drained tw_1526 sh_o_65 rfl rfl rfl rfl (Nat.le_of_ble_eq_true rfl) (Nat.le_of_ble_eq_true rfl) (Nat.zero_le _) (Nat.zero_le _) dX11_dearest_11 (fun r3 m4 => ?_)
    refine hv_goto (tgt := 19) hc dX11_dearest_14 (by decide) ?_
    exact hv_iret hc dX11_dearest_19
def B_X11_moreOf_63 (R63 : Int → Int → (Nat → Int) → hMem → hRs) (x5 x6 : Int) (fE : Nat → Int) (mem : hMem) : hRs := hv_lt x6 30 (hv_nld fE 30 x6 (fun v1 => hv_ald mem 79 30 x6 (fun v2 => hv_b (f_J9_max_7cf53 0 (v1 - v2) mem) (fun r3 m4 => hv_set (x5 + r3) (fun y5 => hv_set (x6 + 1) (fun y6 => R63 y5 y6 fE m4)))))) (hv_ret x5 mem)
def L_X11_moreOf_63 : Nat → Int → Int → (Nat → Int) → hMem → hRs
  | 0 => fun _ _ _ _ => none
  | n + 1 => B_X11_moreOf_63 (L_X11_moreOf_63 n)
set_option maxRecDepth 100000 in
theorem gB_X11_moreOf_63 {X : hv_X} (hc : hv_C X cX11_moreOf 7 RX11 (some FieldType.int) 77 1 30) (R63 : Int → Int → (Nat → Int) → hMem → hRs) (hR63 : ∀ (x5 x6 : Int) (qE : Nat) (fE : Nat → Int) (mem : hMem), hv_R X 7 1 30 (hv_QX X 0 1 30) (R63 x5 x6 fE mem) mem [(qE, 30, fE)] [(0, .ref (hv_ad X 65)), (4, .ref qE), (5, .int (hv_I x5)), (6, .int (hv_I x6))] [] 63) (x5 x6 : Int) (qE : Nat) (fE : Nat → Int) (mem : hMem) : hv_R X 7 1 30 (hv_QX X 0 1 30) (B_X11_moreOf_63 R63 x5 x6 fE mem) mem [(qE, 30, fE)] [(0, .ref (hv_ad X 65)), (4, .ref qE), (5, .int (hv_I x5)), (6, .int (hv_I x6))] [] 63 := by
  unfold B_X11_moreOf_63
  refine hv_iload hc dX11_moreOf_63 (hv_m 3 rfl) ?_
  refine hv_bipush hc dX11_moreOf_65 (by decide) ?_
  refine hv_icmp_ge (tgt := 98) hc dX11_moreOf_67 (by decide) ?_ ?_
  · refine hv_iload hc dX11_moreOf_98 (hv_m 2 rfl) ?_
    exact hv_iret hc dX11_moreOf_100
  · refine hv_iload hc dX11_moreOf_70 (hv_m 2 rfl) ?_
    refine hv_iconst hc dX11_moreOf_72 ?_
    refine hv_aload hc dX11_moreOf_73 (hv_m 1 rfl) ?_
    refine hv_iload hc dX11_moreOf_75 (hv_m 3 rfl) ?_
    refine hv_naload hc (Nat.le_of_ble_eq_true rfl) dX11_moreOf_77 (fun v1 => ?_)
    refine hv_aload_n hc dX11_moreOf_78 rfl (hv_m 0 rfl) ?_
    refine hv_getR hc fl_X11_54 sh_o_65 rfl dX11_moreOf_79 ?_
    refine hv_iload hc dX11_moreOf_82 (hv_m 3 rfl) ?_
    refine hv_iaload hc sh_a_79 (Nat.le_of_ble_eq_true rfl) dX11_moreOf_84 (fun v2 => ?_)
    refine hv_isub hc dX11_moreOf_85 ?_
    refine hv_callSi hc (c_J9_max_7cf53 0 (v1 - v2) mem) ys_J9_max_7cf53 tw_1472 rfl rfl rfl (Nat.le_of_ble_eq_true rfl) (Nat.le_of_ble_eq_true rfl) (by decide) (by decide) dX11_moreOf_86 (fun r3 m4 => ?_)
    refine hv_iadd hc dX11_moreOf_89 ?_
    refine hv_istore_s (lvf := fun y5 => [(5, .int (hv_I y5)), (0, .ref (hv_ad X 65)), (4, .ref qE), (6, .int (hv_I x6))]) hc dX11_moreOf_90 (by decide) (fun _ => rfl) (fun y5 => ?_)
    refine hv_iinc_s (lvf := fun y6 => [(6, .int (hv_I y6)), (5, .int (hv_I y5)), (0, .ref (hv_ad X 65)), (4, .ref qE)]) hc dX11_moreOf_92 (by decide) (hv_m 3 rfl) (fun _ => rfl) (fun y6 => ?_)
    refine hv_goto (tgt := 63) hc dX11_moreOf_95 (by decide) ?_
    exact hv_pick [2, 3, 1, 0] rfl (hR63 y5 y6 qE fE m4)
theorem g_X11_moreOf_63 {X : hv_X} (hc : hv_C X cX11_moreOf 7 RX11 (some FieldType.int) 77 1 30) : ∀ (n : Nat) (x5 x6 : Int) (qE : Nat) (fE : Nat → Int) (mem : hMem), hv_R X 7 1 30 (hv_QX X 0 1 30) (L_X11_moreOf_63 n x5 x6 fE mem) mem [(qE, 30, fE)] [(0, .ref (hv_ad X 65)), (4, .ref qE), (5, .int (hv_I x5)), (6, .int (hv_I x6))] [] 63 := by
  intro n
  induction n with
  | zero => intros; exact hv_none
  | succ n ih => exact gB_X11_moreOf_63 hc _ ih
def B_X11_moreOf_21 (R21 : Int → Int → (Nat → Int) → hMem → hRs) (x2 x5 : Int) (fE : Nat → Int) (mem : hMem) : hRs := hv_lt x5 30 (hv_ald mem 79 30 x5 (fun v4 => hv_nst fE 30 x5 v4 (fun g5 => hv_set (x5 + 1) (fun y6 => R21 x2 y6 g5 mem)))) (hv_ald mem 77 30 x2 (fun v1 => hv_b (f_X11_counts v1 mem) (fun r2 m3 => L_X11_moreOf_63 hv_FU 0 0 fE m3)))
def L_X11_moreOf_21 : Nat → Int → Int → (Nat → Int) → hMem → hRs
  | 0 => fun _ _ _ _ => none
  | n + 1 => B_X11_moreOf_21 (L_X11_moreOf_21 n)
set_option maxRecDepth 100000 in
theorem gB_X11_moreOf_21 {X : hv_X} (hc : hv_C X cX11_moreOf 7 RX11 (some FieldType.int) 77 1 30) (R21 : Int → Int → (Nat → Int) → hMem → hRs) (hR21 : ∀ (x2 x5 : Int) (qE : Nat) (fE : Nat → Int) (mem : hMem), hv_R X 7 1 30 (hv_QX X 0 1 30) (R21 x2 x5 fE mem) mem [(qE, 30, fE)] [(0, .ref (hv_ad X 65)), (2, .int (hv_I x2)), (4, .ref qE), (5, .int (hv_I x5))] [] 21) (x2 x5 : Int) (qE : Nat) (fE : Nat → Int) (mem : hMem) : hv_R X 7 1 30 (hv_QX X 0 1 30) (B_X11_moreOf_21 R21 x2 x5 fE mem) mem [(qE, 30, fE)] [(0, .ref (hv_ad X 65)), (2, .int (hv_I x2)), (4, .ref qE), (5, .int (hv_I x5))] [] 21 := by
  unfold B_X11_moreOf_21
  refine hv_iload hc dX11_moreOf_21 (hv_m 3 rfl) ?_
  refine hv_bipush hc dX11_moreOf_23 (by decide) ?_
  refine hv_icmp_ge (tgt := 46) hc dX11_moreOf_25 (by decide) ?_ ?_
  · refine hv_aload_n hc dX11_moreOf_46 rfl (hv_m 0 rfl) ?_
    refine hv_aload_n hc dX11_moreOf_47 rfl (hv_m 0 rfl) ?_
    refine hv_getR hc fl_X11_48 sh_o_65 rfl dX11_moreOf_48 ?_
    refine hv_iload_n hc dX11_moreOf_51 rfl (hv_m 1 rfl) ?_
    refine hv_iaload hc sh_a_77 (Nat.le_of_ble_eq_true rfl) dX11_moreOf_52 (fun v1 => ?_)
    refine hv_callVi hc (c_X11_counts v1 mem) yv_X11_counts tw_1392 sh_o_65 rfl rfl rfl rfl (Nat.le_of_ble_eq_true rfl) (Nat.le_of_ble_eq_true rfl) (by decide) (by decide) dX11_moreOf_53 (fun r2 m3 => ?_)
    refine hv_pop hc dX11_moreOf_56 rfl ?_
    refine hv_iconst hc dX11_moreOf_57 ?_
    refine hv_istore (lv' := [(5, .int (hv_I 0)), (0, .ref (hv_ad X 65)), (2, .int (hv_I x2)), (4, .ref qE)]) hc dX11_moreOf_58 (by decide) rfl ?_
    refine hv_iconst hc dX11_moreOf_60 ?_
    refine hv_istore (lv' := [(6, .int (hv_I 0)), (5, .int (hv_I 0)), (0, .ref (hv_ad X 65)), (2, .int (hv_I x2)), (4, .ref qE)]) hc dX11_moreOf_61 (by decide) rfl ?_
    exact hv_pick [2, 4, 1, 0] rfl (g_X11_moreOf_63 hc hv_FU 0 0 qE fE m3)
  · refine hv_aload hc dX11_moreOf_28 (hv_m 2 rfl) ?_
    refine hv_iload hc dX11_moreOf_30 (hv_m 3 rfl) ?_
    refine hv_aload_n hc dX11_moreOf_32 rfl (hv_m 0 rfl) ?_
    refine hv_getR hc fl_X11_54 sh_o_65 rfl dX11_moreOf_33 ?_
    refine hv_iload hc dX11_moreOf_36 (hv_m 3 rfl) ?_
    refine hv_iaload hc sh_a_79 (Nat.le_of_ble_eq_true rfl) dX11_moreOf_38 (fun v4 => ?_)
    refine hv_nastore hc (Nat.le_of_ble_eq_true rfl) dX11_moreOf_39 (fun g5 => ?_)
    refine hv_iinc_s (lvf := fun y6 => [(5, .int (hv_I y6)), (0, .ref (hv_ad X 65)), (2, .int (hv_I x2)), (4, .ref qE)]) hc dX11_moreOf_40 (by decide) (hv_m 3 rfl) (fun _ => rfl) (fun y6 => ?_)
    refine hv_goto (tgt := 21) hc dX11_moreOf_43 (by decide) ?_
    exact hv_pick [1, 2, 3, 0] rfl (hR21 x2 y6 qE g5 mem)
theorem g_X11_moreOf_21 {X : hv_X} (hc : hv_C X cX11_moreOf 7 RX11 (some FieldType.int) 77 1 30) : ∀ (n : Nat) (x2 x5 : Int) (qE : Nat) (fE : Nat → Int) (mem : hMem), hv_R X 7 1 30 (hv_QX X 0 1 30) (L_X11_moreOf_21 n x2 x5 fE mem) mem [(qE, 30, fE)] [(0, .ref (hv_ad X 65)), (2, .int (hv_I x2)), (4, .ref qE), (5, .int (hv_I x5))] [] 21 := by
  intro n
  induction n with
  | zero => intros; exact hv_none
  | succ n ih => exact gB_X11_moreOf_21 hc _ ih
def f_X11_moreOf (x1 x2 : Int) (mem : hMem) : hRs := hv_b (f_X11_heapOf x1 mem) (fun r1 m2 => hv_b (f_X11_counts r1 m2) (fun r3 m4 => L_X11_moreOf_21 hv_FU x2 0 (fun _ => 0) m4))
set_option maxRecDepth 100000 in
set_option maxHeartbeats 4000000 in
theorem c_X11_moreOf (x1 x2 : Int) (mem : hMem) : hv_Met 77 1 30 0 yX11_moreOf cX11_moreOf 7 (some FieldType.int) (fun ad _ _ => [.ref (ad 65), .int (hv_I x1), .int (hv_I x2)]) mem (f_X11_moreOf x1 x2 mem) := by
  refine hv_start (by decide +kernel) (fun _ _ _ => Nat.le_of_ble_eq_true rfl) ?_
  intro X hc
  have hc : hv_C X cX11_moreOf 7 RX11 (some FieldType.int) 77 1 30 := hc
  show hv_R X 7 0 0 (hv_QX X 0 1 30) (f_X11_moreOf x1 x2 mem) mem [] [(0, .ref (hv_ad X 65)), (1, .int (hv_I x1)), (2, .int (hv_I x2))] [] 0
  unfold f_X11_moreOf
  refine hv_aload_n hc dX11_moreOf_0 rfl (hv_m 0 rfl) ?_
  refine hv_iload_n hc dX11_moreOf_1 rfl (hv_m 1 rfl) ?_
  refine hv_callVi hc (c_X11_heapOf x1 mem) yv_X11_heapOf tw_1388 sh_o_65 rfl rfl rfl rfl (Nat.le_of_ble_eq_true rfl) (Nat.le_of_ble_eq_true rfl) (Nat.zero_le _) (Nat.zero_le _) dX11_moreOf_2 (fun r1 m2 => ?_)
  refine hv_istore_n (lv' := [(3, .int (hv_I r1)), (0, .ref (hv_ad X 65)), (1, .int (hv_I x1)), (2, .int (hv_I x2))]) hc dX11_moreOf_5 rfl (by decide) rfl ?_
  refine hv_aload_n hc dX11_moreOf_6 rfl (hv_m 1 rfl) ?_
  refine hv_iload_n hc dX11_moreOf_7 rfl (hv_m 0 rfl) ?_
  refine hv_callVi hc (c_X11_counts r1 m2) yv_X11_counts tw_1392 sh_o_65 rfl rfl rfl rfl (Nat.le_of_ble_eq_true rfl) (Nat.le_of_ble_eq_true rfl) (Nat.zero_le _) (Nat.zero_le _) dX11_moreOf_8 (fun r3 m4 => ?_)
  refine hv_pop hc dX11_moreOf_11 rfl ?_
  refine hv_bipush hc dX11_moreOf_12 (by decide) ?_
  refine hv_newarr (n := 30) hc rfl tw_40 (by decide) (by decide) (by decide) dX11_moreOf_14 (fun q5 => ?_)
  refine hv_astore (lv' := [(4, .ref q5), (3, .int (hv_I r1)), (0, .ref (hv_ad X 65)), (1, .int (hv_I x1)), (2, .int (hv_I x2))]) hc dX11_moreOf_16 (by decide) rfl ?_
  refine hv_iconst hc dX11_moreOf_18 ?_
  refine hv_istore (lv' := [(5, .int (hv_I 0)), (4, .ref q5), (3, .int (hv_I r1)), (0, .ref (hv_ad X 65)), (1, .int (hv_I x1)), (2, .int (hv_I x2))]) hc dX11_moreOf_19 (by decide) rfl ?_
  exact hv_pick [3, 5, 1, 0] rfl (g_X11_moreOf_21 hc hv_FU x2 0 q5 (fun _ => 0) m4)
def f_X11_same (x1 x2 : Int) (mem : hMem) : hRs := hv_b (f_X11_isVersion x1 mem) (fun r1 m2 => hv_eq r1 0 (hv_ret ((-2)) m2) (hv_b (f_X11_isVersion x2 m2) (fun r3 m4 => hv_eq r3 0 (hv_ret ((-2)) m4) (hv_b (f_X11_moreOf x1 x2 m4) (fun r5 m6 => hv_eq r5 0 (hv_b (f_X11_moreOf x2 x1 m6) (fun r7 m8 => hv_eq r7 0 (hv_ret 1 m8) (hv_ret 0 m8))) (hv_ret 0 m6))))))
set_option maxRecDepth 100000 in
set_option maxHeartbeats 4000000 in
theorem c_X11_same (x1 x2 : Int) (mem : hMem) : hv_Met 78 2 60 0 yX11_same cX11_same 3 (some FieldType.int) (fun ad _ _ => [.ref (ad 65), .int (hv_I x1), .int (hv_I x2)]) mem (f_X11_same x1 x2 mem) := by
  refine hv_start (by decide +kernel) (fun _ _ _ => Nat.le_of_ble_eq_true rfl) ?_
  intro X hc
  have hc : hv_C X cX11_same 3 RX11 (some FieldType.int) 78 2 60 := hc
  show hv_R X 3 0 0 (hv_QX X 0 2 60) (f_X11_same x1 x2 mem) mem [] [(0, .ref (hv_ad X 65)), (1, .int (hv_I x1)), (2, .int (hv_I x2))] [] 0
  unfold f_X11_same
  refine hv_aload_n hc dX11_same_0 rfl (hv_m 0 rfl) ?_
  refine hv_iload_n hc dX11_same_1 rfl (hv_m 1 rfl) ?_
  refine hv_callVi hc (c_X11_isVersion x1 mem) yv_X11_isVersion tw_1308 sh_o_65 rfl rfl rfl rfl (Nat.le_of_ble_eq_true rfl) (Nat.le_of_ble_eq_true rfl) (Nat.zero_le _) (Nat.zero_le _) dX11_same_2 (fun r1 m2 => ?_)
  refine hv_if_eq (tgt := 16) hc dX11_same_5 (by decide) ?_ ?_
  · refine hv_bipush hc dX11_same_16 (by decide) ?_
    refine hv_widen (c2 := 2) (s2 := 60) (by decide) (by decide) ?_
    exact hv_iret hc dX11_same_18
  · refine hv_aload_n hc dX11_same_8 rfl (hv_m 0 rfl) ?_
    refine hv_iload_n hc dX11_same_9 rfl (hv_m 2 rfl) ?_
    refine hv_callVi hc (c_X11_isVersion x2 m2) yv_X11_isVersion tw_1308 sh_o_65 rfl rfl rfl rfl (Nat.le_of_ble_eq_true rfl) (Nat.le_of_ble_eq_true rfl) (Nat.zero_le _) (Nat.zero_le _) dX11_same_10 (fun r3 m4 => ?_)
    refine hv_if_ne (tgt := 19) hc dX11_same_13 (by decide) ?_ ?_
    · refine hv_aload_n hc dX11_same_19 rfl (hv_m 0 rfl) ?_
      refine hv_iload_n hc dX11_same_20 rfl (hv_m 1 rfl) ?_
      refine hv_iload_n hc dX11_same_21 rfl (hv_m 2 rfl) ?_
      refine hv_callV hc (c_X11_moreOf x1 x2 m4) yv_X11_moreOf tw_1538 sh_o_65 rfl rfl rfl rfl (Nat.le_of_ble_eq_true rfl) (Nat.le_of_ble_eq_true rfl) (by decide) (by decide) dX11_same_22 (fun r5 m6 => ?_)
      refine hv_if_ne (tgt := 41) hc dX11_same_25 (by decide) ?_ ?_
      · refine hv_iconst hc dX11_same_41 ?_
        refine hv_widen (c2 := 2) (s2 := 60) (by decide) (by decide) ?_
        exact hv_iret hc dX11_same_42
      · refine hv_aload_n hc dX11_same_28 rfl (hv_m 0 rfl) ?_
        refine hv_iload_n hc dX11_same_29 rfl (hv_m 2 rfl) ?_
        refine hv_iload_n hc dX11_same_30 rfl (hv_m 1 rfl) ?_
        refine hv_callV hc (c_X11_moreOf x2 x1 m6) yv_X11_moreOf tw_1538 sh_o_65 rfl rfl rfl rfl (Nat.le_of_ble_eq_true rfl) (Nat.le_of_ble_eq_true rfl) (by decide) (by decide) dX11_same_31 (fun r7 m8 => ?_)
        refine hv_if_ne (tgt := 41) hc dX11_same_34 (by decide) ?_ ?_
        · refine hv_iconst hc dX11_same_41 ?_
          exact hv_iret hc dX11_same_42
        · refine hv_iconst hc dX11_same_37 ?_
          refine hv_goto (tgt := 42) hc dX11_same_38 (by decide) ?_
          exact hv_iret hc dX11_same_42
    · refine hv_bipush hc dX11_same_16 (by decide) ?_
      refine hv_widen (c2 := 2) (s2 := 60) (by decide) (by decide) ?_
      exact hv_iret hc dX11_same_18
def f_X11_more (x1 x2 : Int) (mem : hMem) : hRs := hv_b (f_X11_isVersion x1 mem) (fun r1 m2 => hv_eq r1 0 (hv_ret ((-2)) m2) (hv_b (f_X11_isVersion x2 m2) (fun r3 m4 => hv_eq r3 0 (hv_ret ((-2)) m4) (hv_b (f_X11_moreOf x1 x2 m4) (fun r5 m6 => hv_ret r5 m6)))))
set_option maxRecDepth 100000 in
set_option maxHeartbeats 4000000 in
theorem c_X11_more (x1 x2 : Int) (mem : hMem) : hv_Met 78 1 30 0 yX11_more cX11_more 3 (some FieldType.int) (fun ad _ _ => [.ref (ad 65), .int (hv_I x1), .int (hv_I x2)]) mem (f_X11_more x1 x2 mem) := by
  refine hv_start (by decide +kernel) (fun _ _ _ => Nat.le_of_ble_eq_true rfl) ?_
  intro X hc
  have hc : hv_C X cX11_more 3 RX11 (some FieldType.int) 78 1 30 := hc
  show hv_R X 3 0 0 (hv_QX X 0 1 30) (f_X11_more x1 x2 mem) mem [] [(0, .ref (hv_ad X 65)), (1, .int (hv_I x1)), (2, .int (hv_I x2))] [] 0
  unfold f_X11_more
  refine hv_aload_n hc dX11_more_0 rfl (hv_m 0 rfl) ?_
  refine hv_iload_n hc dX11_more_1 rfl (hv_m 1 rfl) ?_
  refine hv_callVi hc (c_X11_isVersion x1 mem) yv_X11_isVersion tw_1308 sh_o_65 rfl rfl rfl rfl (Nat.le_of_ble_eq_true rfl) (Nat.le_of_ble_eq_true rfl) (Nat.zero_le _) (Nat.zero_le _) dX11_more_2 (fun r1 m2 => ?_)
  refine hv_if_eq (tgt := 25) hc dX11_more_5 (by decide) ?_ ?_
  · refine hv_bipush hc dX11_more_25 (by decide) ?_
    refine hv_widen (c2 := 1) (s2 := 30) (by decide) (by decide) ?_
    exact hv_iret hc dX11_more_27
  · refine hv_aload_n hc dX11_more_8 rfl (hv_m 0 rfl) ?_
    refine hv_iload_n hc dX11_more_9 rfl (hv_m 2 rfl) ?_
    refine hv_callVi hc (c_X11_isVersion x2 m2) yv_X11_isVersion tw_1308 sh_o_65 rfl rfl rfl rfl (Nat.le_of_ble_eq_true rfl) (Nat.le_of_ble_eq_true rfl) (Nat.zero_le _) (Nat.zero_le _) dX11_more_10 (fun r3 m4 => ?_)
    refine hv_if_eq (tgt := 25) hc dX11_more_13 (by decide) ?_ ?_
    · refine hv_bipush hc dX11_more_25 (by decide) ?_
      refine hv_widen (c2 := 1) (s2 := 30) (by decide) (by decide) ?_
      exact hv_iret hc dX11_more_27
    · refine hv_aload_n hc dX11_more_16 rfl (hv_m 0 rfl) ?_
      refine hv_iload_n hc dX11_more_17 rfl (hv_m 1 rfl) ?_
      refine hv_iload_n hc dX11_more_18 rfl (hv_m 2 rfl) ?_
      refine hv_callV hc (c_X11_moreOf x1 x2 m4) yv_X11_moreOf tw_1538 sh_o_65 rfl rfl rfl rfl (Nat.le_of_ble_eq_true rfl) (Nat.le_of_ble_eq_true rfl) (by decide) (by decide) dX11_more_19 (fun r5 m6 => ?_)
      refine hv_goto (tgt := 27) hc dX11_more_22 (by decide) ?_
      exact hv_iret hc dX11_more_27
def J_X11_madeOf_74 (R6 : Int → Int → hMem → hRs) (x3 s0 s1 : Int) (mem : hMem) : hRs := hv_set (hv_or s0 s1) (fun y1 => hv_set (x3 + (-1)) (fun y2 => R6 y1 y2 mem))
set_option maxRecDepth 100000 in
theorem g_X11_madeOf_74 {X : hv_X} (hc : hv_C X cX11_madeOf 4 RX11 (some FieldType.int) 0 0 0) (R6 : Int → Int → hMem → hRs) (hR6 : ∀ (x2 x3 : Int) (mem : hMem), hv_R X 4 0 0 (hv_QX X 0 0 0) (R6 x2 x3 mem) mem [] [(0, .ref (hv_ad X 65)), (2, .int (hv_I x2)), (3, .int (hv_I x3))] [] 6) (x3 s0 s1 : Int) (mem : hMem) : hv_R X 4 0 0 (hv_QX X 0 0 0) (J_X11_madeOf_74 R6 x3 s0 s1 mem) mem [] [(0, .ref (hv_ad X 65)), (3, .int (hv_I x3))] [.int (hv_I s1), .int (hv_I s0)] 74 := by
  unfold J_X11_madeOf_74
  refine hv_ior hc dX11_madeOf_74 ?_
  refine hv_istore_ns (lvf := fun y1 => [(2, .int (hv_I y1)), (0, .ref (hv_ad X 65)), (3, .int (hv_I x3))]) hc dX11_madeOf_75 rfl (by decide) (fun _ => rfl) (fun y1 => ?_)
  refine hv_iinc_s (lvf := fun y2 => [(3, .int (hv_I y2)), (2, .int (hv_I y1)), (0, .ref (hv_ad X 65))]) hc dX11_madeOf_76 (by decide) (hv_m 2 rfl) (fun _ => rfl) (fun y2 => ?_)
  refine hv_goto (tgt := 6) hc dX11_madeOf_79 (by decide) ?_
  exact hv_pick [2, 1, 0] rfl (hR6 y1 y2 mem)
def B_X11_madeOf_6 (R6 : Int → Int → hMem → hRs) (x2 x3 : Int) (mem : hMem) : hRs := hv_lt x3 0 (hv_ret x2 mem) (hv_eq (hv_and (hv_shr x2 x3) 1) 1 (hv_ald mem 66 216 (6 + x3) (fun v2 => hv_eq v2 0 (hv_set (x3 + (-1)) (fun y3 => R6 x2 y3 mem)) (hv_ald mem 66 216 (36 + x3) (fun v4 => hv_set (hv_or x2 (hv_shl 1 v4)) (fun y5 => hv_ald mem 66 216 (6 + x3) (fun v6 => hv_eq v6 2 (hv_ald mem 66 216 (66 + x3) (fun v7 => J_X11_madeOf_74 R6 x3 y5 (hv_shl 1 v7) mem)) (J_X11_madeOf_74 R6 x3 y5 0 mem))))))) (hv_set (x3 + (-1)) (fun y1 => R6 x2 y1 mem)))
def L_X11_madeOf_6 : Nat → Int → Int → hMem → hRs
  | 0 => fun _ _ _ => none
  | n + 1 => B_X11_madeOf_6 (L_X11_madeOf_6 n)
set_option maxRecDepth 100000 in
theorem gB_X11_madeOf_6 {X : hv_X} (hc : hv_C X cX11_madeOf 4 RX11 (some FieldType.int) 0 0 0) (R6 : Int → Int → hMem → hRs) (hR6 : ∀ (x2 x3 : Int) (mem : hMem), hv_R X 4 0 0 (hv_QX X 0 0 0) (R6 x2 x3 mem) mem [] [(0, .ref (hv_ad X 65)), (2, .int (hv_I x2)), (3, .int (hv_I x3))] [] 6) (x2 x3 : Int) (mem : hMem) : hv_R X 4 0 0 (hv_QX X 0 0 0) (B_X11_madeOf_6 R6 x2 x3 mem) mem [] [(0, .ref (hv_ad X 65)), (2, .int (hv_I x2)), (3, .int (hv_I x3))] [] 6 := by
  unfold B_X11_madeOf_6
  refine hv_iload_n hc dX11_madeOf_6 rfl (hv_m 2 rfl) ?_
  refine hv_if_lt (tgt := 82) hc dX11_madeOf_7 (by decide) ?_ ?_
  · refine hv_iload_n hc dX11_madeOf_82 rfl (hv_m 1 rfl) ?_
    exact hv_iret hc dX11_madeOf_83
  · refine hv_iload_n hc dX11_madeOf_10 rfl (hv_m 1 rfl) ?_
    refine hv_iload_n hc dX11_madeOf_11 rfl (hv_m 2 rfl) ?_
    refine hv_ishr hc dX11_madeOf_12 ?_
    refine hv_iconst hc dX11_madeOf_13 ?_
    refine hv_iand hc dX11_madeOf_14 ?_
    refine hv_iconst hc dX11_madeOf_15 ?_
    refine hv_icmp_ne (tgt := 76) hc dX11_madeOf_16 (by decide) ?_ ?_
    · refine hv_iinc_s (lvf := fun y1 => [(3, .int (hv_I y1)), (0, .ref (hv_ad X 65)), (2, .int (hv_I x2))]) hc dX11_madeOf_76 (by decide) (hv_m 2 rfl) (fun _ => rfl) (fun y1 => ?_)
      refine hv_goto (tgt := 6) hc dX11_madeOf_79 (by decide) ?_
      exact hv_pick [1, 2, 0] rfl (hR6 x2 y1 mem)
    · refine hv_aload_n hc dX11_madeOf_19 rfl (hv_m 0 rfl) ?_
      refine hv_getR hc fl_X11_9 sh_o_65 rfl dX11_madeOf_20 ?_
      refine hv_bipush hc dX11_madeOf_23 (by decide) ?_
      refine hv_iload_n hc dX11_madeOf_25 rfl (hv_m 2 rfl) ?_
      refine hv_iadd hc dX11_madeOf_26 ?_
      refine hv_iaload hc sh_a_66 (Nat.le_of_ble_eq_true rfl) dX11_madeOf_27 (fun v2 => ?_)
      refine hv_if_eq (tgt := 76) hc dX11_madeOf_28 (by decide) ?_ ?_
      · refine hv_iinc_s (lvf := fun y3 => [(3, .int (hv_I y3)), (0, .ref (hv_ad X 65)), (2, .int (hv_I x2))]) hc dX11_madeOf_76 (by decide) (hv_m 2 rfl) (fun _ => rfl) (fun y3 => ?_)
        refine hv_goto (tgt := 6) hc dX11_madeOf_79 (by decide) ?_
        exact hv_pick [1, 2, 0] rfl (hR6 x2 y3 mem)
      · refine hv_iload_n hc dX11_madeOf_31 rfl (hv_m 1 rfl) ?_
        refine hv_iconst hc dX11_madeOf_32 ?_
        refine hv_aload_n hc dX11_madeOf_33 rfl (hv_m 0 rfl) ?_
        refine hv_getR hc fl_X11_9 sh_o_65 rfl dX11_madeOf_34 ?_
        refine hv_bipush hc dX11_madeOf_37 (by decide) ?_
        refine hv_iload_n hc dX11_madeOf_39 rfl (hv_m 2 rfl) ?_
        refine hv_iadd hc dX11_madeOf_40 ?_
        refine hv_iaload hc sh_a_66 (Nat.le_of_ble_eq_true rfl) dX11_madeOf_41 (fun v4 => ?_)
        refine hv_ishl hc dX11_madeOf_42 ?_
        refine hv_ior hc dX11_madeOf_43 ?_
        refine hv_istore_ns (lvf := fun y5 => [(2, .int (hv_I y5)), (0, .ref (hv_ad X 65)), (3, .int (hv_I x3))]) hc dX11_madeOf_44 rfl (by decide) (fun _ => rfl) (fun y5 => ?_)
        refine hv_iload_n hc dX11_madeOf_45 rfl (hv_m 0 rfl) ?_
        refine hv_aload_n hc dX11_madeOf_46 rfl (hv_m 1 rfl) ?_
        refine hv_getR hc fl_X11_9 sh_o_65 rfl dX11_madeOf_47 ?_
        refine hv_bipush hc dX11_madeOf_50 (by decide) ?_
        refine hv_iload_n hc dX11_madeOf_52 rfl (hv_m 2 rfl) ?_
        refine hv_iadd hc dX11_madeOf_53 ?_
        refine hv_iaload hc sh_a_66 (Nat.le_of_ble_eq_true rfl) dX11_madeOf_54 (fun v6 => ?_)
        refine hv_iconst hc dX11_madeOf_55 ?_
        refine hv_icmp_ne (tgt := 73) hc dX11_madeOf_56 (by decide) ?_ ?_
        · refine hv_iconst hc dX11_madeOf_73 ?_
          exact hv_pick [1, 2] rfl (g_X11_madeOf_74 hc R6 hR6 x3 y5 0 mem)
        · refine hv_iconst hc dX11_madeOf_59 ?_
          refine hv_aload_n hc dX11_madeOf_60 rfl (hv_m 1 rfl) ?_
          refine hv_getR hc fl_X11_9 sh_o_65 rfl dX11_madeOf_61 ?_
          refine hv_bipush hc dX11_madeOf_64 (by decide) ?_
          refine hv_iload_n hc dX11_madeOf_66 rfl (hv_m 2 rfl) ?_
          refine hv_iadd hc dX11_madeOf_67 ?_
          refine hv_iaload hc sh_a_66 (Nat.le_of_ble_eq_true rfl) dX11_madeOf_68 (fun v7 => ?_)
          refine hv_ishl hc dX11_madeOf_69 ?_
          refine hv_goto (tgt := 74) hc dX11_madeOf_70 (by decide) ?_
          exact hv_pick [1, 2] rfl (g_X11_madeOf_74 hc R6 hR6 x3 y5 (hv_shl 1 v7) mem)
theorem g_X11_madeOf_6 {X : hv_X} (hc : hv_C X cX11_madeOf 4 RX11 (some FieldType.int) 0 0 0) : ∀ (n : Nat) (x2 x3 : Int) (mem : hMem), hv_R X 4 0 0 (hv_QX X 0 0 0) (L_X11_madeOf_6 n x2 x3 mem) mem [] [(0, .ref (hv_ad X 65)), (2, .int (hv_I x2)), (3, .int (hv_I x3))] [] 6 := by
  intro n
  induction n with
  | zero => intros; exact hv_none
  | succ n ih => exact gB_X11_madeOf_6 hc _ ih
def f_X11_madeOf (x1 : Int) (mem : hMem) : hRs := hv_set (hv_shl 1 x1) (fun y1 => L_X11_madeOf_6 hv_FU y1 x1 mem)
set_option maxRecDepth 100000 in
set_option maxHeartbeats 4000000 in
theorem c_X11_madeOf (x1 : Int) (mem : hMem) : hv_Met 0 0 0 0 yX11_madeOf cX11_madeOf 4 (some FieldType.int) (fun ad _ _ => [.ref (ad 65), .int (hv_I x1)]) mem (f_X11_madeOf x1 mem) := by
  refine hv_start (by decide +kernel) (fun _ _ _ => Nat.le_of_ble_eq_true rfl) ?_
  intro X hc
  have hc : hv_C X cX11_madeOf 4 RX11 (some FieldType.int) 0 0 0 := hc
  show hv_R X 4 0 0 (hv_QX X 0 0 0) (f_X11_madeOf x1 mem) mem [] [(0, .ref (hv_ad X 65)), (1, .int (hv_I x1))] [] 0
  unfold f_X11_madeOf
  refine hv_iconst hc dX11_madeOf_0 ?_
  refine hv_iload_n hc dX11_madeOf_1 rfl (hv_m 1 rfl) ?_
  refine hv_ishl hc dX11_madeOf_2 ?_
  refine hv_istore_ns (lvf := fun y1 => [(2, .int (hv_I y1)), (0, .ref (hv_ad X 65)), (1, .int (hv_I x1))]) hc dX11_madeOf_3 rfl (by decide) (fun _ => rfl) (fun y1 => ?_)
  refine hv_iload_n hc dX11_madeOf_4 rfl (hv_m 2 rfl) ?_
  refine hv_istore_n (lv' := [(3, .int (hv_I x1)), (2, .int (hv_I y1)), (0, .ref (hv_ad X 65)), (1, .int (hv_I x1))]) hc dX11_madeOf_5 rfl (by decide) rfl ?_
  exact hv_pick [2, 1, 0] rfl (g_X11_madeOf_6 hc hv_FU y1 x1 mem)
def f_X11_isFrom (x1 x2 : Int) (mem : hMem) : hRs := hv_b (f_X11_madeOf x1 mem) (fun r1 m2 => hv_eq (hv_and (hv_shr r1 x2) 1) 1 (hv_zr 1 m2) (hv_zr 0 m2))
set_option maxRecDepth 100000 in
set_option maxHeartbeats 4000000 in
theorem c_X11_isFrom (x1 x2 : Int) (mem : hMem) : hv_Met 1 0 0 0 yX11_isFrom cX11_isFrom 3 (some FieldType.boolean) (fun ad _ _ => [.ref (ad 65), .int (hv_I x1), .int (hv_I x2)]) mem (f_X11_isFrom x1 x2 mem) := by
  refine hv_start (by decide +kernel) (fun _ _ _ => Nat.le_of_ble_eq_true rfl) ?_
  intro X hc
  have hc : hv_C X cX11_isFrom 3 RX11 (some FieldType.boolean) 1 0 0 := hc
  show hv_R X 3 0 0 (hv_QX X 0 0 0) (f_X11_isFrom x1 x2 mem) mem [] [(0, .ref (hv_ad X 65)), (1, .int (hv_I x1)), (2, .int (hv_I x2))] [] 0
  unfold f_X11_isFrom
  refine hv_aload_n hc dX11_isFrom_0 rfl (hv_m 0 rfl) ?_
  refine hv_iload_n hc dX11_isFrom_1 rfl (hv_m 1 rfl) ?_
  refine hv_callVi hc (c_X11_madeOf x1 mem) yv_X11_madeOf tw_1554 sh_o_65 rfl rfl rfl rfl (Nat.le_of_ble_eq_true rfl) (Nat.le_of_ble_eq_true rfl) (Nat.zero_le _) (Nat.zero_le _) dX11_isFrom_2 (fun r1 m2 => ?_)
  refine hv_iload_n hc dX11_isFrom_5 rfl (hv_m 2 rfl) ?_
  refine hv_ishr hc dX11_isFrom_6 ?_
  refine hv_iconst hc dX11_isFrom_7 ?_
  refine hv_iand hc dX11_isFrom_8 ?_
  refine hv_iconst hc dX11_isFrom_9 ?_
  refine hv_icmp_ne (tgt := 17) hc dX11_isFrom_10 (by decide) ?_ ?_
  · refine hv_iconst hc dX11_isFrom_17 ?_
    exact hv_zret hc dX11_isFrom_18
  · refine hv_iconst hc dX11_isFrom_13 ?_
    refine hv_goto (tgt := 18) hc dX11_isFrom_14 (by decide) ?_
    exact hv_zret hc dX11_isFrom_18
def f_X11_from (x1 x2 : Int) (mem : hMem) : hRs := hv_b (f_X11_isVersion x1 mem) (fun r1 m2 => hv_eq r1 0 (hv_ret ((-2)) m2) (hv_b (f_X11_isVersion x2 m2) (fun r3 m4 => hv_eq r3 0 (hv_ret ((-2)) m4) (hv_b (f_X11_isFrom x1 x2 m4) (fun r5 m6 => hv_eq r5 0 (hv_ret 0 m6) (hv_ret 1 m6))))))
set_option maxRecDepth 100000 in
set_option maxHeartbeats 4000000 in
theorem c_X11_from (x1 x2 : Int) (mem : hMem) : hv_Met 2 0 0 0 yX11_from cX11_from 3 (some FieldType.int) (fun ad _ _ => [.ref (ad 65), .int (hv_I x1), .int (hv_I x2)]) mem (f_X11_from x1 x2 mem) := by
  refine hv_start (by decide +kernel) (fun _ _ _ => Nat.le_of_ble_eq_true rfl) ?_
  intro X hc
  have hc : hv_C X cX11_from 3 RX11 (some FieldType.int) 2 0 0 := hc
  show hv_R X 3 0 0 (hv_QX X 0 0 0) (f_X11_from x1 x2 mem) mem [] [(0, .ref (hv_ad X 65)), (1, .int (hv_I x1)), (2, .int (hv_I x2))] [] 0
  unfold f_X11_from
  refine hv_aload_n hc dX11_from_0 rfl (hv_m 0 rfl) ?_
  refine hv_iload_n hc dX11_from_1 rfl (hv_m 1 rfl) ?_
  refine hv_callVi hc (c_X11_isVersion x1 mem) yv_X11_isVersion tw_1308 sh_o_65 rfl rfl rfl rfl (Nat.le_of_ble_eq_true rfl) (Nat.le_of_ble_eq_true rfl) (Nat.zero_le _) (Nat.zero_le _) dX11_from_2 (fun r1 m2 => ?_)
  refine hv_if_eq (tgt := 16) hc dX11_from_5 (by decide) ?_ ?_
  · refine hv_bipush hc dX11_from_16 (by decide) ?_
    exact hv_iret hc dX11_from_18
  · refine hv_aload_n hc dX11_from_8 rfl (hv_m 0 rfl) ?_
    refine hv_iload_n hc dX11_from_9 rfl (hv_m 2 rfl) ?_
    refine hv_callVi hc (c_X11_isVersion x2 m2) yv_X11_isVersion tw_1308 sh_o_65 rfl rfl rfl rfl (Nat.le_of_ble_eq_true rfl) (Nat.le_of_ble_eq_true rfl) (Nat.zero_le _) (Nat.zero_le _) dX11_from_10 (fun r3 m4 => ?_)
    refine hv_if_ne (tgt := 19) hc dX11_from_13 (by decide) ?_ ?_
    · refine hv_aload_n hc dX11_from_19 rfl (hv_m 0 rfl) ?_
      refine hv_iload_n hc dX11_from_20 rfl (hv_m 1 rfl) ?_
      refine hv_iload_n hc dX11_from_21 rfl (hv_m 2 rfl) ?_
      refine hv_callVi hc (c_X11_isFrom x1 x2 m4) yv_X11_isFrom tw_1550 sh_o_65 rfl rfl rfl rfl (Nat.le_of_ble_eq_true rfl) (Nat.le_of_ble_eq_true rfl) (Nat.zero_le _) (Nat.zero_le _) dX11_from_22 (fun r5 m6 => ?_)
      refine hv_if_eq (tgt := 32) hc dX11_from_25 (by decide) ?_ ?_
      · refine hv_iconst hc dX11_from_32 ?_
        exact hv_iret hc dX11_from_33
      · refine hv_iconst hc dX11_from_28 ?_
        refine hv_goto (tgt := 33) hc dX11_from_29 (by decide) ?_
        exact hv_iret hc dX11_from_33
    · refine hv_bipush hc dX11_from_16 (by decide) ?_
      exact hv_iret hc dX11_from_18
def J_X11_roots_35 (R15 : Int → Int → Int → hMem → hRs) (x1 x3 s0 s1 : Int) (mem : hMem) : hRs := hv_set (s0 + s1) (fun y1 => hv_set (x3 + 1) (fun y2 => R15 x1 y1 y2 mem))
set_option maxRecDepth 100000 in
theorem g_X11_roots_35 {X : hv_X} (hc : hv_C X cX11_roots 4 RX11 (some FieldType.int) 2 0 0) (R15 : Int → Int → Int → hMem → hRs) (hR15 : ∀ (x1 x2 x3 : Int) (mem : hMem), hv_R X 4 0 0 (hv_QX X 0 0 0) (R15 x1 x2 x3 mem) mem [] [(0, .ref (hv_ad X 65)), (1, .int (hv_I x1)), (2, .int (hv_I x2)), (3, .int (hv_I x3))] [] 15) (x1 x3 s0 s1 : Int) (mem : hMem) : hv_R X 4 0 0 (hv_QX X 0 0 0) (J_X11_roots_35 R15 x1 x3 s0 s1 mem) mem [] [(0, .ref (hv_ad X 65)), (1, .int (hv_I x1)), (3, .int (hv_I x3))] [.int (hv_I s1), .int (hv_I s0)] 35 := by
  unfold J_X11_roots_35
  refine hv_iadd hc dX11_roots_35 ?_
  refine hv_istore_ns (lvf := fun y1 => [(2, .int (hv_I y1)), (0, .ref (hv_ad X 65)), (1, .int (hv_I x1)), (3, .int (hv_I x3))]) hc dX11_roots_36 rfl (by decide) (fun _ => rfl) (fun y1 => ?_)
  refine hv_iinc_s (lvf := fun y2 => [(3, .int (hv_I y2)), (2, .int (hv_I y1)), (0, .ref (hv_ad X 65)), (1, .int (hv_I x1))]) hc dX11_roots_37 (by decide) (hv_m 3 rfl) (fun _ => rfl) (fun y2 => ?_)
  refine hv_goto (tgt := 15) hc dX11_roots_40 (by decide) ?_
  exact hv_pick [2, 3, 1, 0] rfl (hR15 x1 y1 y2 mem)
def B_X11_roots_15 (R15 : Int → Int → Int → hMem → hRs) (x1 x2 x3 : Int) (mem : hMem) : hRs := hv_lt x3 x1 (hv_b (f_X11_isFrom x1 x3 mem) (fun r1 m2 => hv_eq r1 0 (J_X11_roots_35 R15 x1 x3 x2 0 m2) (J_X11_roots_35 R15 x1 x3 x2 1 m2))) (hv_ret x2 mem)
def L_X11_roots_15 : Nat → Int → Int → Int → hMem → hRs
  | 0 => fun _ _ _ _ => none
  | n + 1 => B_X11_roots_15 (L_X11_roots_15 n)
set_option maxRecDepth 100000 in
theorem gB_X11_roots_15 {X : hv_X} (hc : hv_C X cX11_roots 4 RX11 (some FieldType.int) 2 0 0) (R15 : Int → Int → Int → hMem → hRs) (hR15 : ∀ (x1 x2 x3 : Int) (mem : hMem), hv_R X 4 0 0 (hv_QX X 0 0 0) (R15 x1 x2 x3 mem) mem [] [(0, .ref (hv_ad X 65)), (1, .int (hv_I x1)), (2, .int (hv_I x2)), (3, .int (hv_I x3))] [] 15) (x1 x2 x3 : Int) (mem : hMem) : hv_R X 4 0 0 (hv_QX X 0 0 0) (B_X11_roots_15 R15 x1 x2 x3 mem) mem [] [(0, .ref (hv_ad X 65)), (1, .int (hv_I x1)), (2, .int (hv_I x2)), (3, .int (hv_I x3))] [] 15 := by
  unfold B_X11_roots_15
  refine hv_iload_n hc dX11_roots_15 rfl (hv_m 3 rfl) ?_
  refine hv_iload_n hc dX11_roots_16 rfl (hv_m 1 rfl) ?_
  refine hv_icmp_ge (tgt := 43) hc dX11_roots_17 (by decide) ?_ ?_
  · refine hv_iload_n hc dX11_roots_43 rfl (hv_m 2 rfl) ?_
    exact hv_iret hc dX11_roots_44
  · refine hv_iload_n hc dX11_roots_20 rfl (hv_m 2 rfl) ?_
    refine hv_aload_n hc dX11_roots_21 rfl (hv_m 0 rfl) ?_
    refine hv_iload_n hc dX11_roots_22 rfl (hv_m 1 rfl) ?_
    refine hv_iload_n hc dX11_roots_23 rfl (hv_m 3 rfl) ?_
    refine hv_callVi hc (c_X11_isFrom x1 x3 mem) yv_X11_isFrom tw_1550 sh_o_65 rfl rfl rfl rfl (Nat.le_of_ble_eq_true rfl) (Nat.le_of_ble_eq_true rfl) (Nat.zero_le _) (Nat.zero_le _) dX11_roots_24 (fun r1 m2 => ?_)
    refine hv_if_eq (tgt := 34) hc dX11_roots_27 (by decide) ?_ ?_
    · refine hv_iconst hc dX11_roots_34 ?_
      exact hv_pick [0, 1, 3] rfl (g_X11_roots_35 hc R15 hR15 x1 x3 x2 0 m2)
    · refine hv_iconst hc dX11_roots_30 ?_
      refine hv_goto (tgt := 35) hc dX11_roots_31 (by decide) ?_
      exact hv_pick [0, 1, 3] rfl (g_X11_roots_35 hc R15 hR15 x1 x3 x2 1 m2)
theorem g_X11_roots_15 {X : hv_X} (hc : hv_C X cX11_roots 4 RX11 (some FieldType.int) 2 0 0) : ∀ (n : Nat) (x1 x2 x3 : Int) (mem : hMem), hv_R X 4 0 0 (hv_QX X 0 0 0) (L_X11_roots_15 n x1 x2 x3 mem) mem [] [(0, .ref (hv_ad X 65)), (1, .int (hv_I x1)), (2, .int (hv_I x2)), (3, .int (hv_I x3))] [] 15 := by
  intro n
  induction n with
  | zero => intros; exact hv_none
  | succ n ih => exact gB_X11_roots_15 hc _ ih
def f_X11_roots (x1 : Int) (mem : hMem) : hRs := hv_b (f_X11_isVersion x1 mem) (fun r1 m2 => hv_eq r1 0 (hv_ret ((-2)) m2) (L_X11_roots_15 hv_FU x1 0 0 m2))
set_option maxRecDepth 100000 in
set_option maxHeartbeats 4000000 in
theorem c_X11_roots (x1 : Int) (mem : hMem) : hv_Met 2 0 0 0 yX11_roots cX11_roots 4 (some FieldType.int) (fun ad _ _ => [.ref (ad 65), .int (hv_I x1)]) mem (f_X11_roots x1 mem) := by
  refine hv_start (by decide +kernel) (fun _ _ _ => Nat.le_of_ble_eq_true rfl) ?_
  intro X hc
  have hc : hv_C X cX11_roots 4 RX11 (some FieldType.int) 2 0 0 := hc
  show hv_R X 4 0 0 (hv_QX X 0 0 0) (f_X11_roots x1 mem) mem [] [(0, .ref (hv_ad X 65)), (1, .int (hv_I x1))] [] 0
  unfold f_X11_roots
  refine hv_aload_n hc dX11_roots_0 rfl (hv_m 0 rfl) ?_
  refine hv_iload_n hc dX11_roots_1 rfl (hv_m 1 rfl) ?_
  refine hv_callVi hc (c_X11_isVersion x1 mem) yv_X11_isVersion tw_1308 sh_o_65 rfl rfl rfl rfl (Nat.le_of_ble_eq_true rfl) (Nat.le_of_ble_eq_true rfl) (Nat.zero_le _) (Nat.zero_le _) dX11_roots_2 (fun r1 m2 => ?_)
  refine hv_if_ne (tgt := 11) hc dX11_roots_5 (by decide) ?_ ?_
  · refine hv_iconst hc dX11_roots_11 ?_
    refine hv_istore_n (lv' := [(2, .int (hv_I 0)), (0, .ref (hv_ad X 65)), (1, .int (hv_I x1))]) hc dX11_roots_12 rfl (by decide) rfl ?_
    refine hv_iconst hc dX11_roots_13 ?_
    refine hv_istore_n (lv' := [(3, .int (hv_I 0)), (2, .int (hv_I 0)), (0, .ref (hv_ad X 65)), (1, .int (hv_I x1))]) hc dX11_roots_14 rfl (by decide) rfl ?_
    exact hv_pick [2, 3, 1, 0] rfl (g_X11_roots_15 hc hv_FU x1 0 0 m2)
  · refine hv_bipush hc dX11_roots_8 (by decide) ?_
    exact hv_iret hc dX11_roots_10
def f_X11_isPut (x1 x2 : Int) (mem : hMem) : hRs := hv_b (f_X11_isVersion x1 mem) (fun r1 m2 => hv_eq r1 0 (hv_zr 0 m2) (hv_b (f_X11_isVersion x2 m2) (fun r3 m4 => hv_eq r3 0 (hv_zr 0 m4) (hv_ald m4 66 216 (6 + x2) (fun v5 => hv_eq v5 1 (hv_zr 1 m4) (hv_zr 0 m4))))))
set_option maxRecDepth 100000 in
set_option maxHeartbeats 4000000 in
theorem c_X11_isPut (x1 x2 : Int) (mem : hMem) : hv_Met 2 0 0 0 yX11_isPut cX11_isPut 3 (some FieldType.boolean) (fun ad _ _ => [.ref (ad 65), .int (hv_I x1), .int (hv_I x2)]) mem (f_X11_isPut x1 x2 mem) := by
  refine hv_start (by decide +kernel) (fun _ _ _ => Nat.le_of_ble_eq_true rfl) ?_
  intro X hc
  have hc : hv_C X cX11_isPut 3 RX11 (some FieldType.boolean) 2 0 0 := hc
  show hv_R X 3 0 0 (hv_QX X 0 0 0) (f_X11_isPut x1 x2 mem) mem [] [(0, .ref (hv_ad X 65)), (1, .int (hv_I x1)), (2, .int (hv_I x2))] [] 0
  unfold f_X11_isPut
  refine hv_aload_n hc dX11_isPut_0 rfl (hv_m 0 rfl) ?_
  refine hv_iload_n hc dX11_isPut_1 rfl (hv_m 1 rfl) ?_
  refine hv_callVi hc (c_X11_isVersion x1 mem) yv_X11_isVersion tw_1308 sh_o_65 rfl rfl rfl rfl (Nat.le_of_ble_eq_true rfl) (Nat.le_of_ble_eq_true rfl) (Nat.zero_le _) (Nat.zero_le _) dX11_isPut_2 (fun r1 m2 => ?_)
  refine hv_if_eq (tgt := 33) hc dX11_isPut_5 (by decide) ?_ ?_
  · refine hv_iconst hc dX11_isPut_33 ?_
    exact hv_zret hc dX11_isPut_34
  · refine hv_aload_n hc dX11_isPut_8 rfl (hv_m 0 rfl) ?_
    refine hv_iload_n hc dX11_isPut_9 rfl (hv_m 2 rfl) ?_
    refine hv_callVi hc (c_X11_isVersion x2 m2) yv_X11_isVersion tw_1308 sh_o_65 rfl rfl rfl rfl (Nat.le_of_ble_eq_true rfl) (Nat.le_of_ble_eq_true rfl) (Nat.zero_le _) (Nat.zero_le _) dX11_isPut_10 (fun r3 m4 => ?_)
    refine hv_if_eq (tgt := 33) hc dX11_isPut_13 (by decide) ?_ ?_
    · refine hv_iconst hc dX11_isPut_33 ?_
      exact hv_zret hc dX11_isPut_34
    · refine hv_aload_n hc dX11_isPut_16 rfl (hv_m 0 rfl) ?_
      refine hv_getR hc fl_X11_9 sh_o_65 rfl dX11_isPut_17 ?_
      refine hv_bipush hc dX11_isPut_20 (by decide) ?_
      refine hv_iload_n hc dX11_isPut_22 rfl (hv_m 2 rfl) ?_
      refine hv_iadd hc dX11_isPut_23 ?_
      refine hv_iaload hc sh_a_66 (Nat.le_of_ble_eq_true rfl) dX11_isPut_24 (fun v5 => ?_)
      refine hv_iconst hc dX11_isPut_25 ?_
      refine hv_icmp_ne (tgt := 33) hc dX11_isPut_26 (by decide) ?_ ?_
      · refine hv_iconst hc dX11_isPut_33 ?_
        exact hv_zret hc dX11_isPut_34
      · refine hv_iconst hc dX11_isPut_29 ?_
        refine hv_goto (tgt := 34) hc dX11_isPut_30 (by decide) ?_
        exact hv_zret hc dX11_isPut_34
def f_X11_without (x1 x2 : Int) (mem : hMem) : hRs := hv_b (f_X11_isPut x1 x2 mem) (fun r1 m2 => hv_eq r1 0 (hv_ret ((-2)) m2) (hv_ald m2 66 216 0 (fun v3 => hv_b (f_X11_makesAll v3 x2 m2) (fun r4 m5 => hv_ald m5 77 30 x1 (fun v6 => hv_b (f_X11_leastOf v6 m5) (fun r7 m8 => hv_ret r7 m8))))))
set_option maxRecDepth 100000 in
set_option maxHeartbeats 4000000 in
theorem c_X11_without (x1 x2 : Int) (mem : hMem) : hv_Met 76 0 0 0 yX11_without cX11_without 3 (some FieldType.int) (fun ad _ _ => [.ref (ad 65), .int (hv_I x1), .int (hv_I x2)]) mem (f_X11_without x1 x2 mem) := by
  refine hv_start (by decide +kernel) (fun _ _ _ => Nat.le_of_ble_eq_true rfl) ?_
  intro X hc
  have hc : hv_C X cX11_without 3 RX11 (some FieldType.int) 76 0 0 := hc
  show hv_R X 3 0 0 (hv_QX X 0 0 0) (f_X11_without x1 x2 mem) mem [] [(0, .ref (hv_ad X 65)), (1, .int (hv_I x1)), (2, .int (hv_I x2))] [] 0
  unfold f_X11_without
  refine hv_aload_n hc dX11_without_0 rfl (hv_m 0 rfl) ?_
  refine hv_iload_n hc dX11_without_1 rfl (hv_m 1 rfl) ?_
  refine hv_iload_n hc dX11_without_2 rfl (hv_m 2 rfl) ?_
  refine hv_callVi hc (c_X11_isPut x1 x2 mem) yv_X11_isPut tw_1566 sh_o_65 rfl rfl rfl rfl (Nat.le_of_ble_eq_true rfl) (Nat.le_of_ble_eq_true rfl) (Nat.zero_le _) (Nat.zero_le _) dX11_without_3 (fun r1 m2 => ?_)
  refine hv_if_ne (tgt := 12) hc dX11_without_6 (by decide) ?_ ?_
  · refine hv_aload_n hc dX11_without_12 rfl (hv_m 0 rfl) ?_
    refine hv_aload_n hc dX11_without_13 rfl (hv_m 0 rfl) ?_
    refine hv_getR hc fl_X11_9 sh_o_65 rfl dX11_without_14 ?_
    refine hv_iconst hc dX11_without_17 ?_
    refine hv_iaload hc sh_a_66 (Nat.le_of_ble_eq_true rfl) dX11_without_18 (fun v3 => ?_)
    refine hv_iload_n hc dX11_without_19 rfl (hv_m 2 rfl) ?_
    refine hv_callVv hc (c_X11_makesAll v3 x2 m2) yv_X11_makesAll tw_1316 sh_o_65 rfl rfl rfl rfl (Nat.le_of_ble_eq_true rfl) (Nat.le_of_ble_eq_true rfl) (Nat.zero_le _) (Nat.zero_le _) dX11_without_20 (fun r4 m5 => ?_)
    refine hv_aload_n hc dX11_without_23 rfl (hv_m 0 rfl) ?_
    refine hv_aload_n hc dX11_without_24 rfl (hv_m 0 rfl) ?_
    refine hv_getR hc fl_X11_48 sh_o_65 rfl dX11_without_25 ?_
    refine hv_iload_n hc dX11_without_28 rfl (hv_m 1 rfl) ?_
    refine hv_iaload hc sh_a_77 (Nat.le_of_ble_eq_true rfl) dX11_without_29 (fun v6 => ?_)
    refine hv_callVi hc (c_X11_leastOf v6 m5) yv_X11_leastOf tw_1408 sh_o_65 rfl rfl rfl rfl (Nat.le_of_ble_eq_true rfl) (Nat.le_of_ble_eq_true rfl) (Nat.zero_le _) (Nat.zero_le _) dX11_without_30 (fun r7 m8 => ?_)
    exact hv_iret hc dX11_without_33
  · refine hv_bipush hc dX11_without_9 (by decide) ?_
    exact hv_iret hc dX11_without_11
def f_X11_left (x1 x2 : Int) (mem : hMem) : hRs := hv_b (f_X11_isPut x1 x2 mem) (fun r1 m2 => hv_eq r1 0 (hv_ret ((-2)) m2) (hv_ald m2 66 216 0 (fun v3 => hv_b (f_X11_makesAll v3 x2 m2) (fun r4 m5 => hv_ald m5 77 30 x1 (fun v6 => hv_b (f_X11_counts v6 m5) (fun r7 m8 => hv_ret r7 m8))))))
set_option maxRecDepth 100000 in
set_option maxHeartbeats 4000000 in
theorem c_X11_left (x1 x2 : Int) (mem : hMem) : hv_Met 76 0 0 0 yX11_left cX11_left 3 (some FieldType.int) (fun ad _ _ => [.ref (ad 65), .int (hv_I x1), .int (hv_I x2)]) mem (f_X11_left x1 x2 mem) := by
  refine hv_start (by decide +kernel) (fun _ _ _ => Nat.le_of_ble_eq_true rfl) ?_
  intro X hc
  have hc : hv_C X cX11_left 3 RX11 (some FieldType.int) 76 0 0 := hc
  show hv_R X 3 0 0 (hv_QX X 0 0 0) (f_X11_left x1 x2 mem) mem [] [(0, .ref (hv_ad X 65)), (1, .int (hv_I x1)), (2, .int (hv_I x2))] [] 0
  unfold f_X11_left
  refine hv_aload_n hc dX11_left_0 rfl (hv_m 0 rfl) ?_
  refine hv_iload_n hc dX11_left_1 rfl (hv_m 1 rfl) ?_
  refine hv_iload_n hc dX11_left_2 rfl (hv_m 2 rfl) ?_
  refine hv_callVi hc (c_X11_isPut x1 x2 mem) yv_X11_isPut tw_1566 sh_o_65 rfl rfl rfl rfl (Nat.le_of_ble_eq_true rfl) (Nat.le_of_ble_eq_true rfl) (Nat.zero_le _) (Nat.zero_le _) dX11_left_3 (fun r1 m2 => ?_)
  refine hv_if_ne (tgt := 12) hc dX11_left_6 (by decide) ?_ ?_
  · refine hv_aload_n hc dX11_left_12 rfl (hv_m 0 rfl) ?_
    refine hv_aload_n hc dX11_left_13 rfl (hv_m 0 rfl) ?_
    refine hv_getR hc fl_X11_9 sh_o_65 rfl dX11_left_14 ?_
    refine hv_iconst hc dX11_left_17 ?_
    refine hv_iaload hc sh_a_66 (Nat.le_of_ble_eq_true rfl) dX11_left_18 (fun v3 => ?_)
    refine hv_iload_n hc dX11_left_19 rfl (hv_m 2 rfl) ?_
    refine hv_callVv hc (c_X11_makesAll v3 x2 m2) yv_X11_makesAll tw_1316 sh_o_65 rfl rfl rfl rfl (Nat.le_of_ble_eq_true rfl) (Nat.le_of_ble_eq_true rfl) (Nat.zero_le _) (Nat.zero_le _) dX11_left_20 (fun r4 m5 => ?_)
    refine hv_aload_n hc dX11_left_23 rfl (hv_m 0 rfl) ?_
    refine hv_aload_n hc dX11_left_24 rfl (hv_m 0 rfl) ?_
    refine hv_getR hc fl_X11_48 sh_o_65 rfl dX11_left_25 ?_
    refine hv_iload_n hc dX11_left_28 rfl (hv_m 1 rfl) ?_
    refine hv_iaload hc sh_a_77 (Nat.le_of_ble_eq_true rfl) dX11_left_29 (fun v6 => ?_)
    refine hv_callVi hc (c_X11_counts v6 m5) yv_X11_counts tw_1392 sh_o_65 rfl rfl rfl rfl (Nat.le_of_ble_eq_true rfl) (Nat.le_of_ble_eq_true rfl) (Nat.zero_le _) (Nat.zero_le _) dX11_left_30 (fun r7 m8 => ?_)
    exact hv_iret hc dX11_left_33
  · refine hv_bipush hc dX11_left_9 (by decide) ?_
    exact hv_iret hc dX11_left_11
def B_X11_does_48 (R36 : Int → Int → Int → hMem → hRs) (R48 : Int → Int → Int → Int → Int → hMem → hRs) (x2 x3 x4 x5 x6 : Int) (mem : hMem) : hRs := hv_lt x6 x2 (hv_ald mem 83 8 x6 (fun v9 => hv_ald mem 83 8 x5 (fun v10 => hv_lt v9 v10 (hv_set (x6 + 1) (fun y12 => R48 x2 x3 x4 x6 y12 mem)) (hv_set (x6 + 1) (fun y11 => R48 x2 x3 x4 x5 y11 mem))))) (hv_ald mem 83 8 x5 (fun v1 => hv_ald mem 80 54 x4 (fun v2 => hv_ald mem 66 216 (156 + v2) (fun v3 => hv_ast mem 83 8 x5 (v1 + v3) (fun m4 => hv_ast m4 84 54 x4 x5 (fun m5 => hv_ald m5 83 8 x5 (fun v6 => hv_ast m5 85 54 x4 v6 (fun m7 => hv_set (x4 + 1) (fun y8 => R36 x2 x3 y8 m7)))))))))
def L_X11_does_48 (R36 : Int → Int → Int → hMem → hRs) : Nat → Int → Int → Int → Int → Int → hMem → hRs
  | 0 => fun _ _ _ _ _ _ => none
  | n + 1 => B_X11_does_48 R36 (L_X11_does_48 R36 n)
set_option maxRecDepth 100000 in
theorem gB_X11_does_48 {X : hv_X} (hc : hv_C X cX11_does 7 RX11 (some FieldType.int) 77 0 0) (R36 : Int → Int → Int → hMem → hRs) (hR36 : ∀ (x2 x3 x4 : Int) (mem : hMem), hv_R X 7 0 0 (hv_QX X 0 0 0) (R36 x2 x3 x4 mem) mem [] [(0, .ref (hv_ad X 65)), (2, .int (hv_I x2)), (3, .int (hv_I x3)), (4, .int (hv_I x4))] [] 36) (R48 : Int → Int → Int → Int → Int → hMem → hRs) (hR48 : ∀ (x2 x3 x4 x5 x6 : Int) (mem : hMem), hv_R X 7 0 0 (hv_QX X 0 0 0) (R48 x2 x3 x4 x5 x6 mem) mem [] [(0, .ref (hv_ad X 65)), (2, .int (hv_I x2)), (3, .int (hv_I x3)), (4, .int (hv_I x4)), (5, .int (hv_I x5)), (6, .int (hv_I x6))] [] 48) (x2 x3 x4 x5 x6 : Int) (mem : hMem) : hv_R X 7 0 0 (hv_QX X 0 0 0) (B_X11_does_48 R36 R48 x2 x3 x4 x5 x6 mem) mem [] [(0, .ref (hv_ad X 65)), (2, .int (hv_I x2)), (3, .int (hv_I x3)), (4, .int (hv_I x4)), (5, .int (hv_I x5)), (6, .int (hv_I x6))] [] 48 := by
  unfold B_X11_does_48
  refine hv_iload hc dX11_does_48 (hv_m 5 rfl) ?_
  refine hv_iload_n hc dX11_does_50 rfl (hv_m 1 rfl) ?_
  refine hv_icmp_ge (tgt := 86) hc dX11_does_51 (by decide) ?_ ?_
  · refine hv_aload_n hc dX11_does_86 rfl (hv_m 0 rfl) ?_
    refine hv_getR hc fl_X11_66 sh_o_65 rfl dX11_does_87 ?_
    refine hv_iload hc dX11_does_90 (hv_m 4 rfl) ?_
    refine hv_dup2 hc dX11_does_92 rfl rfl ?_
    refine hv_iaload hc sh_a_83 (Nat.le_of_ble_eq_true rfl) dX11_does_93 (fun v1 => ?_)
    refine hv_aload_n hc dX11_does_94 rfl (hv_m 0 rfl) ?_
    refine hv_getR hc fl_X11_9 sh_o_65 rfl dX11_does_95 ?_
    refine hv_sipush hc dX11_does_98 (by decide) ?_
    refine hv_aload_n hc dX11_does_101 rfl (hv_m 0 rfl) ?_
    refine hv_getR hc fl_X11_57 sh_o_65 rfl dX11_does_102 ?_
    refine hv_iload hc dX11_does_105 (hv_m 3 rfl) ?_
    refine hv_iaload hc sh_a_80 (Nat.le_of_ble_eq_true rfl) dX11_does_107 (fun v2 => ?_)
    refine hv_iadd hc dX11_does_108 ?_
    refine hv_iaload hc sh_a_66 (Nat.le_of_ble_eq_true rfl) dX11_does_109 (fun v3 => ?_)
    refine hv_iadd hc dX11_does_110 ?_
    refine hv_iastore hc sh_a_83 (Nat.le_of_ble_eq_true rfl) dX11_does_111 (fun m4 => ?_)
    refine hv_aload_n hc dX11_does_112 rfl (hv_m 0 rfl) ?_
    refine hv_getR hc fl_X11_69 sh_o_65 rfl dX11_does_113 ?_
    refine hv_iload hc dX11_does_116 (hv_m 3 rfl) ?_
    refine hv_iload hc dX11_does_118 (hv_m 4 rfl) ?_
    refine hv_iastore hc sh_a_84 (Nat.le_of_ble_eq_true rfl) dX11_does_120 (fun m5 => ?_)
    refine hv_aload_n hc dX11_does_121 rfl (hv_m 0 rfl) ?_
    refine hv_getR hc fl_X11_72 sh_o_65 rfl dX11_does_122 ?_
    refine hv_iload hc dX11_does_125 (hv_m 3 rfl) ?_
    refine hv_aload_n hc dX11_does_127 rfl (hv_m 0 rfl) ?_
    refine hv_getR hc fl_X11_66 sh_o_65 rfl dX11_does_128 ?_
    refine hv_iload hc dX11_does_131 (hv_m 4 rfl) ?_
    refine hv_iaload hc sh_a_83 (Nat.le_of_ble_eq_true rfl) dX11_does_133 (fun v6 => ?_)
    refine hv_iastore hc sh_a_85 (Nat.le_of_ble_eq_true rfl) dX11_does_134 (fun m7 => ?_)
    refine hv_iinc_s (lvf := fun y8 => [(4, .int (hv_I y8)), (0, .ref (hv_ad X 65)), (2, .int (hv_I x2)), (3, .int (hv_I x3)), (5, .int (hv_I x5)), (6, .int (hv_I x6))]) hc dX11_does_135 (by decide) (hv_m 3 rfl) (fun _ => rfl) (fun y8 => ?_)
    refine hv_goto (tgt := 36) hc dX11_does_138 (by decide) ?_
    exact hv_pick [1, 2, 3, 0] rfl (hR36 x2 x3 y8 m7)
  · refine hv_aload_n hc dX11_does_54 rfl (hv_m 0 rfl) ?_
    refine hv_getR hc fl_X11_66 sh_o_65 rfl dX11_does_55 ?_
    refine hv_iload hc dX11_does_58 (hv_m 5 rfl) ?_
    refine hv_iaload hc sh_a_83 (Nat.le_of_ble_eq_true rfl) dX11_does_60 (fun v9 => ?_)
    refine hv_aload_n hc dX11_does_61 rfl (hv_m 0 rfl) ?_
    refine hv_getR hc fl_X11_66 sh_o_65 rfl dX11_does_62 ?_
    refine hv_iload hc dX11_does_65 (hv_m 4 rfl) ?_
    refine hv_iaload hc sh_a_83 (Nat.le_of_ble_eq_true rfl) dX11_does_67 (fun v10 => ?_)
    refine hv_icmp_ge (tgt := 76) hc dX11_does_68 (by decide) ?_ ?_
    · refine hv_iload hc dX11_does_76 (hv_m 4 rfl) ?_
      refine hv_istore (lv' := [(5, .int (hv_I x5)), (0, .ref (hv_ad X 65)), (2, .int (hv_I x2)), (3, .int (hv_I x3)), (4, .int (hv_I x4)), (6, .int (hv_I x6))]) hc dX11_does_78 (by decide) rfl ?_
      refine hv_iinc_s (lvf := fun y11 => [(6, .int (hv_I y11)), (5, .int (hv_I x5)), (0, .ref (hv_ad X 65)), (2, .int (hv_I x2)), (3, .int (hv_I x3)), (4, .int (hv_I x4))]) hc dX11_does_80 (by decide) (hv_m 5 rfl) (fun _ => rfl) (fun y11 => ?_)
      refine hv_goto (tgt := 48) hc dX11_does_83 (by decide) ?_
      exact hv_pick [2, 3, 4, 5, 1, 0] rfl (hR48 x2 x3 x4 x5 y11 mem)
    · refine hv_iload hc dX11_does_71 (hv_m 5 rfl) ?_
      refine hv_goto (tgt := 78) hc dX11_does_73 (by decide) ?_
      refine hv_istore (lv' := [(5, .int (hv_I x6)), (0, .ref (hv_ad X 65)), (2, .int (hv_I x2)), (3, .int (hv_I x3)), (4, .int (hv_I x4)), (6, .int (hv_I x6))]) hc dX11_does_78 (by decide) rfl ?_
      refine hv_iinc_s (lvf := fun y12 => [(6, .int (hv_I y12)), (5, .int (hv_I x6)), (0, .ref (hv_ad X 65)), (2, .int (hv_I x2)), (3, .int (hv_I x3)), (4, .int (hv_I x4))]) hc dX11_does_80 (by decide) (hv_m 5 rfl) (fun _ => rfl) (fun y12 => ?_)
      refine hv_goto (tgt := 48) hc dX11_does_83 (by decide) ?_
      exact hv_pick [2, 3, 4, 5, 1, 0] rfl (hR48 x2 x3 x4 x6 y12 mem)
theorem g_X11_does_48 {X : hv_X} (hc : hv_C X cX11_does 7 RX11 (some FieldType.int) 77 0 0) (R36 : Int → Int → Int → hMem → hRs) (hR36 : ∀ (x2 x3 x4 : Int) (mem : hMem), hv_R X 7 0 0 (hv_QX X 0 0 0) (R36 x2 x3 x4 mem) mem [] [(0, .ref (hv_ad X 65)), (2, .int (hv_I x2)), (3, .int (hv_I x3)), (4, .int (hv_I x4))] [] 36) : ∀ (n : Nat) (x2 x3 x4 x5 x6 : Int) (mem : hMem), hv_R X 7 0 0 (hv_QX X 0 0 0) (L_X11_does_48 R36 n x2 x3 x4 x5 x6 mem) mem [] [(0, .ref (hv_ad X 65)), (2, .int (hv_I x2)), (3, .int (hv_I x3)), (4, .int (hv_I x4)), (5, .int (hv_I x5)), (6, .int (hv_I x6))] [] 48 := by
  intro n
  induction n with
  | zero => intros; exact hv_none
  | succ n ih => exact gB_X11_does_48 hc R36 hR36 _ ih
def B_X11_does_36 (R36 : Int → Int → Int → hMem → hRs) (x2 x3 x4 : Int) (mem : hMem) : hRs := hv_lt x4 x3 (L_X11_does_48 R36 hv_FU x2 x3 x4 0 1 mem) (hv_ret x3 mem)
def L_X11_does_36 : Nat → Int → Int → Int → hMem → hRs
  | 0 => fun _ _ _ _ => none
  | n + 1 => B_X11_does_36 (L_X11_does_36 n)
set_option maxRecDepth 100000 in
theorem gB_X11_does_36 {X : hv_X} (hc : hv_C X cX11_does 7 RX11 (some FieldType.int) 77 0 0) (R36 : Int → Int → Int → hMem → hRs) (hR36 : ∀ (x2 x3 x4 : Int) (mem : hMem), hv_R X 7 0 0 (hv_QX X 0 0 0) (R36 x2 x3 x4 mem) mem [] [(0, .ref (hv_ad X 65)), (2, .int (hv_I x2)), (3, .int (hv_I x3)), (4, .int (hv_I x4))] [] 36) (x2 x3 x4 : Int) (mem : hMem) : hv_R X 7 0 0 (hv_QX X 0 0 0) (B_X11_does_36 R36 x2 x3 x4 mem) mem [] [(0, .ref (hv_ad X 65)), (2, .int (hv_I x2)), (3, .int (hv_I x3)), (4, .int (hv_I x4))] [] 36 := by
  unfold B_X11_does_36
  refine hv_iload hc dX11_does_36 (hv_m 3 rfl) ?_
  refine hv_iload_n hc dX11_does_38 rfl (hv_m 2 rfl) ?_
  refine hv_icmp_ge (tgt := 141) hc dX11_does_39 (by decide) ?_ ?_
  · refine hv_iload_n hc dX11_does_141 rfl (hv_m 2 rfl) ?_
    exact hv_iret hc dX11_does_142
  · refine hv_iconst hc dX11_does_42 ?_
    refine hv_istore (lv' := [(5, .int (hv_I 0)), (0, .ref (hv_ad X 65)), (2, .int (hv_I x2)), (3, .int (hv_I x3)), (4, .int (hv_I x4))]) hc dX11_does_43 (by decide) rfl ?_
    refine hv_iconst hc dX11_does_45 ?_
    refine hv_istore (lv' := [(6, .int (hv_I 1)), (5, .int (hv_I 0)), (0, .ref (hv_ad X 65)), (2, .int (hv_I x2)), (3, .int (hv_I x3)), (4, .int (hv_I x4))]) hc dX11_does_46 (by decide) rfl ?_
    exact hv_pick [2, 3, 4, 5, 1, 0] rfl (g_X11_does_48 hc R36 hR36 hv_FU x2 x3 x4 0 1 mem)
theorem g_X11_does_36 {X : hv_X} (hc : hv_C X cX11_does 7 RX11 (some FieldType.int) 77 0 0) : ∀ (n : Nat) (x2 x3 x4 : Int) (mem : hMem), hv_R X 7 0 0 (hv_QX X 0 0 0) (L_X11_does_36 n x2 x3 x4 mem) mem [] [(0, .ref (hv_ad X 65)), (2, .int (hv_I x2)), (3, .int (hv_I x3)), (4, .int (hv_I x4))] [] 36 := by
  intro n
  induction n with
  | zero => intros; exact hv_none
  | succ n ih => exact gB_X11_does_36 hc _ ih
def B_X11_does_13 (R13 : Int → Int → Int → hMem → hRs) (x2 x3 x4 : Int) (mem : hMem) : hRs := hv_lt x4 x2 (hv_ast mem 83 8 x4 0 (fun m1 => hv_set (x4 + 1) (fun y2 => R13 x2 x3 y2 m1))) (L_X11_does_36 hv_FU x2 x3 0 mem)
def L_X11_does_13 : Nat → Int → Int → Int → hMem → hRs
  | 0 => fun _ _ _ _ => none
  | n + 1 => B_X11_does_13 (L_X11_does_13 n)
set_option maxRecDepth 100000 in
theorem gB_X11_does_13 {X : hv_X} (hc : hv_C X cX11_does 7 RX11 (some FieldType.int) 77 0 0) (R13 : Int → Int → Int → hMem → hRs) (hR13 : ∀ (x2 x3 x4 : Int) (mem : hMem), hv_R X 7 0 0 (hv_QX X 0 0 0) (R13 x2 x3 x4 mem) mem [] [(0, .ref (hv_ad X 65)), (2, .int (hv_I x2)), (3, .int (hv_I x3)), (4, .int (hv_I x4))] [] 13) (x2 x3 x4 : Int) (mem : hMem) : hv_R X 7 0 0 (hv_QX X 0 0 0) (B_X11_does_13 R13 x2 x3 x4 mem) mem [] [(0, .ref (hv_ad X 65)), (2, .int (hv_I x2)), (3, .int (hv_I x3)), (4, .int (hv_I x4))] [] 13 := by
  unfold B_X11_does_13
  refine hv_iload hc dX11_does_13 (hv_m 3 rfl) ?_
  refine hv_iload_n hc dX11_does_15 rfl (hv_m 1 rfl) ?_
  refine hv_icmp_ge (tgt := 33) hc dX11_does_16 (by decide) ?_ ?_
  · refine hv_iconst hc dX11_does_33 ?_
    refine hv_istore (lv' := [(4, .int (hv_I 0)), (0, .ref (hv_ad X 65)), (2, .int (hv_I x2)), (3, .int (hv_I x3))]) hc dX11_does_34 (by decide) rfl ?_
    exact hv_pick [1, 2, 3, 0] rfl (g_X11_does_36 hc hv_FU x2 x3 0 mem)
  · refine hv_aload_n hc dX11_does_19 rfl (hv_m 0 rfl) ?_
    refine hv_getR hc fl_X11_66 sh_o_65 rfl dX11_does_20 ?_
    refine hv_iload hc dX11_does_23 (hv_m 3 rfl) ?_
    refine hv_iconst hc dX11_does_25 ?_
    refine hv_iastore hc sh_a_83 (Nat.le_of_ble_eq_true rfl) dX11_does_26 (fun m1 => ?_)
    refine hv_iinc_s (lvf := fun y2 => [(4, .int (hv_I y2)), (0, .ref (hv_ad X 65)), (2, .int (hv_I x2)), (3, .int (hv_I x3))]) hc dX11_does_27 (by decide) (hv_m 3 rfl) (fun _ => rfl) (fun y2 => ?_)
    refine hv_goto (tgt := 13) hc dX11_does_30 (by decide) ?_
    exact hv_pick [1, 2, 3, 0] rfl (hR13 x2 x3 y2 m1)
theorem g_X11_does_13 {X : hv_X} (hc : hv_C X cX11_does 7 RX11 (some FieldType.int) 77 0 0) : ∀ (n : Nat) (x2 x3 x4 : Int) (mem : hMem), hv_R X 7 0 0 (hv_QX X 0 0 0) (L_X11_does_13 n x2 x3 x4 mem) mem [] [(0, .ref (hv_ad X 65)), (2, .int (hv_I x2)), (3, .int (hv_I x3)), (4, .int (hv_I x4))] [] 13 := by
  intro n
  induction n with
  | zero => intros; exact hv_none
  | succ n ih => exact gB_X11_does_13 hc _ ih
def f_X11_does (x1 x2 : Int) (mem : hMem) : hRs := hv_b (f_X11_heapOf x1 mem) (fun r1 m2 => hv_b (f_X11_ordered r1 m2) (fun r3 m4 => L_X11_does_13 hv_FU x2 r3 0 m4))
set_option maxRecDepth 100000 in
set_option maxHeartbeats 4000000 in
theorem c_X11_does (x1 x2 : Int) (mem : hMem) : hv_Met 77 0 0 0 yX11_does cX11_does 7 (some FieldType.int) (fun ad _ _ => [.ref (ad 65), .int (hv_I x1), .int (hv_I x2)]) mem (f_X11_does x1 x2 mem) := by
  refine hv_start (by decide +kernel) (fun _ _ _ => Nat.le_of_ble_eq_true rfl) ?_
  intro X hc
  have hc : hv_C X cX11_does 7 RX11 (some FieldType.int) 77 0 0 := hc
  show hv_R X 7 0 0 (hv_QX X 0 0 0) (f_X11_does x1 x2 mem) mem [] [(0, .ref (hv_ad X 65)), (1, .int (hv_I x1)), (2, .int (hv_I x2))] [] 0
  unfold f_X11_does
  refine hv_aload_n hc dX11_does_0 rfl (hv_m 0 rfl) ?_
  refine hv_aload_n hc dX11_does_1 rfl (hv_m 0 rfl) ?_
  refine hv_iload_n hc dX11_does_2 rfl (hv_m 1 rfl) ?_
  refine hv_callVi hc (c_X11_heapOf x1 mem) yv_X11_heapOf tw_1388 sh_o_65 rfl rfl rfl rfl (Nat.le_of_ble_eq_true rfl) (Nat.le_of_ble_eq_true rfl) (Nat.zero_le _) (Nat.zero_le _) dX11_does_3 (fun r1 m2 => ?_)
  refine hv_callVi hc (c_X11_ordered r1 m2) yv_X11_ordered tw_1416 sh_o_65 rfl rfl rfl rfl (Nat.le_of_ble_eq_true rfl) (Nat.le_of_ble_eq_true rfl) (Nat.zero_le _) (Nat.zero_le _) dX11_does_6 (fun r3 m4 => ?_)
  refine hv_istore_n (lv' := [(3, .int (hv_I r3)), (0, .ref (hv_ad X 65)), (1, .int (hv_I x1)), (2, .int (hv_I x2))]) hc dX11_does_9 rfl (by decide) rfl ?_
  refine hv_iconst hc dX11_does_10 ?_
  refine hv_istore (lv' := [(4, .int (hv_I 0)), (3, .int (hv_I r3)), (0, .ref (hv_ad X 65)), (1, .int (hv_I x1)), (2, .int (hv_I x2))]) hc dX11_does_11 (by decide) rfl ?_
  exact hv_pick [2, 4, 1, 0] rfl (g_X11_does_13 hc hv_FU x2 r3 0 m4)
def J_X11_done_111 (R50 : Int → Int → Int → Int → Int → Int → Int → hMem → hRs) (x2 x3 x4 x6 x7 x8 x9 s0 s1 : Int) (mem : hMem) : hRs := hv_set (s0 + s1) (fun y1 => hv_set (x6 + x9) (fun y2 => hv_b (f_J9_max_7cf53 x7 x9 mem) (fun r3 m4 => hv_set (x8 + 1) (fun y5 => R50 x2 x3 x4 y1 y2 r3 y5 m4))))
set_option maxRecDepth 100000 in
theorem g_X11_done_111 {X : hv_X} (hc : hv_C X cX11_done 10 RX11 (some FieldType.int) 78 0 0) (R50 : Int → Int → Int → Int → Int → Int → Int → hMem → hRs) (hR50 : ∀ (x2 x3 x4 x5 x6 x7 x8 : Int) (mem : hMem), hv_R X 10 0 0 (hv_QX X 0 0 0) (R50 x2 x3 x4 x5 x6 x7 x8 mem) mem [] [(0, .ref (hv_ad X 65)), (2, .int (hv_I x2)), (3, .int (hv_I x3)), (4, .int (hv_I x4)), (5, .int (hv_I x5)), (6, .int (hv_I x6)), (7, .int (hv_I x7)), (8, .int (hv_I x8))] [] 50) (x2 x3 x4 x6 x7 x8 x9 s0 s1 : Int) (mem : hMem) : hv_R X 10 0 0 (hv_QX X 0 0 0) (J_X11_done_111 R50 x2 x3 x4 x6 x7 x8 x9 s0 s1 mem) mem [] [(0, .ref (hv_ad X 65)), (2, .int (hv_I x2)), (3, .int (hv_I x3)), (4, .int (hv_I x4)), (6, .int (hv_I x6)), (7, .int (hv_I x7)), (8, .int (hv_I x8)), (9, .int (hv_I x9))] [.int (hv_I s1), .int (hv_I s0)] 111 := by
  unfold J_X11_done_111
  refine hv_iadd hc dX11_done_111 ?_
  refine hv_istore_s (lvf := fun y1 => [(5, .int (hv_I y1)), (0, .ref (hv_ad X 65)), (2, .int (hv_I x2)), (3, .int (hv_I x3)), (4, .int (hv_I x4)), (6, .int (hv_I x6)), (7, .int (hv_I x7)), (8, .int (hv_I x8)), (9, .int (hv_I x9))]) hc dX11_done_112 (by decide) (fun _ => rfl) (fun y1 => ?_)
  refine hv_iload hc dX11_done_114 (hv_m 5 rfl) ?_
  refine hv_iload hc dX11_done_116 (hv_m 8 rfl) ?_
  refine hv_iadd hc dX11_done_118 ?_
  refine hv_istore_s (lvf := fun y2 => [(6, .int (hv_I y2)), (5, .int (hv_I y1)), (0, .ref (hv_ad X 65)), (2, .int (hv_I x2)), (3, .int (hv_I x3)), (4, .int (hv_I x4)), (7, .int (hv_I x7)), (8, .int (hv_I x8)), (9, .int (hv_I x9))]) hc dX11_done_119 (by decide) (fun _ => rfl) (fun y2 => ?_)
  refine hv_iload hc dX11_done_121 (hv_m 6 rfl) ?_
  refine hv_iload hc dX11_done_123 (hv_m 8 rfl) ?_
  refine hv_callSi hc (c_J9_max_7cf53 x7 x9 mem) ys_J9_max_7cf53 tw_1472 rfl rfl rfl (Nat.le_of_ble_eq_true rfl) (Nat.le_of_ble_eq_true rfl) (Nat.zero_le _) (Nat.zero_le _) dX11_done_125 (fun r3 m4 => ?_)
  refine hv_istore (lv' := [(7, .int (hv_I r3)), (6, .int (hv_I y2)), (5, .int (hv_I y1)), (0, .ref (hv_ad X 65)), (2, .int (hv_I x2)), (3, .int (hv_I x3)), (4, .int (hv_I x4)), (8, .int (hv_I x8)), (9, .int (hv_I x9))]) hc dX11_done_128 (by decide) rfl ?_
  refine hv_iinc_s (lvf := fun y5 => [(8, .int (hv_I y5)), (7, .int (hv_I r3)), (6, .int (hv_I y2)), (5, .int (hv_I y1)), (0, .ref (hv_ad X 65)), (2, .int (hv_I x2)), (3, .int (hv_I x3)), (4, .int (hv_I x4)), (9, .int (hv_I x9))]) hc dX11_done_130 (by decide) (hv_m 7 rfl) (fun _ => rfl) (fun y5 => ?_)
  refine hv_goto (tgt := 50) hc dX11_done_133 (by decide) ?_
  exact hv_pick [4, 5, 6, 7, 3, 2, 1, 0] rfl (hR50 x2 x3 x4 y1 y2 r3 y5 m4)
def B_X11_done_50 (R50 : Int → Int → Int → Int → Int → Int → Int → hMem → hRs) (x2 x3 x4 x5 x6 x7 x8 : Int) (mem : hMem) : hRs := hv_lt x8 x3 (hv_ald mem 85 54 x8 (fun v1 => hv_ald mem 80 54 x8 (fun v2 => hv_ald mem 66 216 (126 + v2) (fun v3 => hv_b (f_J9_max_7cf53 0 (v1 - v3) mem) (fun r4 m5 => hv_ald m5 85 54 x8 (fun v6 => hv_b (f_J9_max_7cf53 x4 v6 m5) (fun r7 m8 => hv_lt 0 r4 (J_X11_done_111 R50 x2 x3 r7 x6 x7 x8 r4 x5 1 m8) (J_X11_done_111 R50 x2 x3 r7 x6 x7 x8 r4 x5 0 m8)))))))) (hv_eq x2 0 (hv_ret x4 mem) (hv_eq x2 1 (hv_ret x5 mem) (hv_eq x2 2 (hv_ret x6 mem) (hv_ret x7 mem))))
def L_X11_done_50 : Nat → Int → Int → Int → Int → Int → Int → Int → hMem → hRs
  | 0 => fun _ _ _ _ _ _ _ _ => none
  | n + 1 => B_X11_done_50 (L_X11_done_50 n)
set_option maxRecDepth 100000 in
theorem gB_X11_done_50 {X : hv_X} (hc : hv_C X cX11_done 10 RX11 (some FieldType.int) 78 0 0) (R50 : Int → Int → Int → Int → Int → Int → Int → hMem → hRs) (hR50 : ∀ (x2 x3 x4 x5 x6 x7 x8 : Int) (mem : hMem), hv_R X 10 0 0 (hv_QX X 0 0 0) (R50 x2 x3 x4 x5 x6 x7 x8 mem) mem [] [(0, .ref (hv_ad X 65)), (2, .int (hv_I x2)), (3, .int (hv_I x3)), (4, .int (hv_I x4)), (5, .int (hv_I x5)), (6, .int (hv_I x6)), (7, .int (hv_I x7)), (8, .int (hv_I x8))] [] 50) (x2 x3 x4 x5 x6 x7 x8 : Int) (mem : hMem) : hv_R X 10 0 0 (hv_QX X 0 0 0) (B_X11_done_50 R50 x2 x3 x4 x5 x6 x7 x8 mem) mem [] [(0, .ref (hv_ad X 65)), (2, .int (hv_I x2)), (3, .int (hv_I x3)), (4, .int (hv_I x4)), (5, .int (hv_I x5)), (6, .int (hv_I x6)), (7, .int (hv_I x7)), (8, .int (hv_I x8))] [] 50 := by
  unfold B_X11_done_50
  refine hv_iload hc dX11_done_50 (hv_m 7 rfl) ?_
  refine hv_iload_n hc dX11_done_52 rfl (hv_m 2 rfl) ?_
  refine hv_icmp_ge (tgt := 136) hc dX11_done_53 (by decide) ?_ ?_
  · refine hv_iload_n hc dX11_done_136 rfl (hv_m 1 rfl) ?_
    refine hv_if_ne (tgt := 145) hc dX11_done_137 (by decide) ?_ ?_
    · refine hv_iload_n hc dX11_done_145 rfl (hv_m 1 rfl) ?_
      refine hv_iconst hc dX11_done_146 ?_
      refine hv_icmp_ne (tgt := 155) hc dX11_done_147 (by decide) ?_ ?_
      · refine hv_iload_n hc dX11_done_155 rfl (hv_m 1 rfl) ?_
        refine hv_iconst hc dX11_done_156 ?_
        refine hv_icmp_ne (tgt := 165) hc dX11_done_157 (by decide) ?_ ?_
        · refine hv_iload hc dX11_done_165 (hv_m 6 rfl) ?_
          exact hv_iret hc dX11_done_167
        · refine hv_iload hc dX11_done_160 (hv_m 5 rfl) ?_
          refine hv_goto (tgt := 167) hc dX11_done_162 (by decide) ?_
          exact hv_iret hc dX11_done_167
      · refine hv_iload hc dX11_done_150 (hv_m 4 rfl) ?_
        refine hv_goto (tgt := 167) hc dX11_done_152 (by decide) ?_
        exact hv_iret hc dX11_done_167
    · refine hv_iload hc dX11_done_140 (hv_m 3 rfl) ?_
      refine hv_goto (tgt := 167) hc dX11_done_142 (by decide) ?_
      exact hv_iret hc dX11_done_167
  · refine hv_iconst hc dX11_done_56 ?_
    refine hv_aload_n hc dX11_done_57 rfl (hv_m 0 rfl) ?_
    refine hv_getR hc fl_X11_72 sh_o_65 rfl dX11_done_58 ?_
    refine hv_iload hc dX11_done_61 (hv_m 7 rfl) ?_
    refine hv_iaload hc sh_a_85 (Nat.le_of_ble_eq_true rfl) dX11_done_63 (fun v1 => ?_)
    refine hv_aload_n hc dX11_done_64 rfl (hv_m 0 rfl) ?_
    refine hv_getR hc fl_X11_9 sh_o_65 rfl dX11_done_65 ?_
    refine hv_bipush hc dX11_done_68 (by decide) ?_
    refine hv_aload_n hc dX11_done_70 rfl (hv_m 0 rfl) ?_
    refine hv_getR hc fl_X11_57 sh_o_65 rfl dX11_done_71 ?_
    refine hv_iload hc dX11_done_74 (hv_m 7 rfl) ?_
    refine hv_iaload hc sh_a_80 (Nat.le_of_ble_eq_true rfl) dX11_done_76 (fun v2 => ?_)
    refine hv_iadd hc dX11_done_77 ?_
    refine hv_iaload hc sh_a_66 (Nat.le_of_ble_eq_true rfl) dX11_done_78 (fun v3 => ?_)
    refine hv_isub hc dX11_done_79 ?_
    refine hv_callSi hc (c_J9_max_7cf53 0 (v1 - v3) mem) ys_J9_max_7cf53 tw_1472 rfl rfl rfl (Nat.le_of_ble_eq_true rfl) (Nat.le_of_ble_eq_true rfl) (Nat.zero_le _) (Nat.zero_le _) dX11_done_80 (fun r4 m5 => ?_)
    refine hv_istore (lv' := [(9, .int (hv_I r4)), (0, .ref (hv_ad X 65)), (2, .int (hv_I x2)), (3, .int (hv_I x3)), (4, .int (hv_I x4)), (5, .int (hv_I x5)), (6, .int (hv_I x6)), (7, .int (hv_I x7)), (8, .int (hv_I x8))]) hc dX11_done_83 (by decide) rfl ?_
    refine hv_iload hc dX11_done_85 (hv_m 4 rfl) ?_
    refine hv_aload_n hc dX11_done_87 rfl (hv_m 1 rfl) ?_
    refine hv_getR hc fl_X11_72 sh_o_65 rfl dX11_done_88 ?_
    refine hv_iload hc dX11_done_91 (hv_m 8 rfl) ?_
    refine hv_iaload hc sh_a_85 (Nat.le_of_ble_eq_true rfl) dX11_done_93 (fun v6 => ?_)
    refine hv_callSi hc (c_J9_max_7cf53 x4 v6 m5) ys_J9_max_7cf53 tw_1472 rfl rfl rfl (Nat.le_of_ble_eq_true rfl) (Nat.le_of_ble_eq_true rfl) (Nat.zero_le _) (Nat.zero_le _) dX11_done_94 (fun r7 m8 => ?_)
    refine hv_istore (lv' := [(4, .int (hv_I r7)), (9, .int (hv_I r4)), (0, .ref (hv_ad X 65)), (2, .int (hv_I x2)), (3, .int (hv_I x3)), (5, .int (hv_I x5)), (6, .int (hv_I x6)), (7, .int (hv_I x7)), (8, .int (hv_I x8))]) hc dX11_done_97 (by decide) rfl ?_
    refine hv_iload hc dX11_done_99 (hv_m 5 rfl) ?_
    refine hv_iload hc dX11_done_101 (hv_m 1 rfl) ?_
    refine hv_if_le (tgt := 110) hc dX11_done_103 (by decide) ?_ ?_
    · refine hv_iconst hc dX11_done_110 ?_
      exact hv_pick [2, 3, 4, 0, 6, 7, 8, 1] rfl (g_X11_done_111 hc R50 hR50 x2 x3 r7 x6 x7 x8 r4 x5 0 m8)
    · refine hv_iconst hc dX11_done_106 ?_
      refine hv_goto (tgt := 111) hc dX11_done_107 (by decide) ?_
      exact hv_pick [2, 3, 4, 0, 6, 7, 8, 1] rfl (g_X11_done_111 hc R50 hR50 x2 x3 r7 x6 x7 x8 r4 x5 1 m8)
theorem g_X11_done_50 {X : hv_X} (hc : hv_C X cX11_done 10 RX11 (some FieldType.int) 78 0 0) : ∀ (n : Nat) (x2 x3 x4 x5 x6 x7 x8 : Int) (mem : hMem), hv_R X 10 0 0 (hv_QX X 0 0 0) (L_X11_done_50 n x2 x3 x4 x5 x6 x7 x8 mem) mem [] [(0, .ref (hv_ad X 65)), (2, .int (hv_I x2)), (3, .int (hv_I x3)), (4, .int (hv_I x4)), (5, .int (hv_I x5)), (6, .int (hv_I x6)), (7, .int (hv_I x7)), (8, .int (hv_I x8))] [] 50 := by
  intro n
  induction n with
  | zero => intros; exact hv_none
  | succ n ih => exact gB_X11_done_50 hc _ ih
def f_X11_done (x1 x2 : Int) (mem : hMem) : hRs := hv_b (f_X11_isVersion x1 mem) (fun r1 m2 => hv_eq r1 0 (hv_ret ((-2)) m2) (hv_rg x2 (hv_b (f_X11_in x2 0 3 m2) (fun r3 m4 => hv_eq r3 0 (hv_ret ((-2)) m4) (hv_ald m4 66 216 1 (fun v5 => hv_b (f_X11_does x1 v5 m4) (fun r6 m7 => L_X11_done_50 hv_FU x2 r6 0 0 0 0 0 m7)))))))
set_option maxRecDepth 100000 in
set_option maxHeartbeats 4000000 in
theorem c_X11_done (x1 x2 : Int) (mem : hMem) : hv_Met 78 0 0 0 yX11_done cX11_done 10 (some FieldType.int) (fun ad _ _ => [.ref (ad 65), .int (hv_I x1), .int (hv_I x2)]) mem (f_X11_done x1 x2 mem) := by
  refine hv_start (by decide +kernel) (fun _ _ _ => Nat.le_of_ble_eq_true rfl) ?_
  intro X hc
  have hc : hv_C X cX11_done 10 RX11 (some FieldType.int) 78 0 0 := hc
  show hv_R X 10 0 0 (hv_QX X 0 0 0) (f_X11_done x1 x2 mem) mem [] [(0, .ref (hv_ad X 65)), (1, .int (hv_I x1)), (2, .int (hv_I x2))] [] 0
  unfold f_X11_done
  refine hv_aload_n hc dX11_done_0 rfl (hv_m 0 rfl) ?_
  refine hv_iload_n hc dX11_done_1 rfl (hv_m 1 rfl) ?_
  refine hv_callVi hc (c_X11_isVersion x1 mem) yv_X11_isVersion tw_1308 sh_o_65 rfl rfl rfl rfl (Nat.le_of_ble_eq_true rfl) (Nat.le_of_ble_eq_true rfl) (Nat.zero_le _) (Nat.zero_le _) dX11_done_2 (fun r1 m2 => ?_)
  refine hv_if_eq (tgt := 20) hc dX11_done_5 (by decide) ?_ ?_
  · refine hv_bipush hc dX11_done_20 (by decide) ?_
    exact hv_iret hc dX11_done_22
  · refine hv_iload_n hc dX11_done_8 rfl (hv_m 2 rfl) ?_
    refine hv_i2l hc dX11_done_9 ?_
    refine hv_lconst (k := 0) hc dX11_done_10 (by decide) ?_
    refine hv_ldc2 (k := 3) hc tw_1578 (by decide) dX11_done_11 ?_
    refine hv_callSi hc (c_X11_in x2 0 3 m2) ys_X11_in tw_1233 rfl rfl rfl (Nat.le_of_ble_eq_true rfl) (Nat.le_of_ble_eq_true rfl) (Nat.zero_le _) (Nat.zero_le _) dX11_done_14 (fun r3 m4 => ?_)
    refine hv_if_ne (tgt := 23) hc dX11_done_17 (by decide) ?_ ?_
    · refine hv_aload_n hc dX11_done_23 rfl (hv_m 0 rfl) ?_
      refine hv_iload_n hc dX11_done_24 rfl (hv_m 1 rfl) ?_
      refine hv_aload_n hc dX11_done_25 rfl (hv_m 0 rfl) ?_
      refine hv_getR hc fl_X11_9 sh_o_65 rfl dX11_done_26 ?_
      refine hv_iconst hc dX11_done_29 ?_
      refine hv_iaload hc sh_a_66 (Nat.le_of_ble_eq_true rfl) dX11_done_30 (fun v5 => ?_)
      refine hv_callVi hc (c_X11_does x1 v5 m4) yv_X11_does tw_1579 sh_o_65 rfl rfl rfl rfl (Nat.le_of_ble_eq_true rfl) (Nat.le_of_ble_eq_true rfl) (Nat.zero_le _) (Nat.zero_le _) dX11_done_31 (fun r6 m7 => ?_)
      refine hv_istore_n (lv' := [(3, .int (hv_I r6)), (0, .ref (hv_ad X 65)), (1, .int (hv_I x1)), (2, .int (hv_I x2))]) hc dX11_done_34 rfl (by decide) rfl ?_
      refine hv_iconst hc dX11_done_35 ?_
      refine hv_istore (lv' := [(4, .int (hv_I 0)), (3, .int (hv_I r6)), (0, .ref (hv_ad X 65)), (1, .int (hv_I x1)), (2, .int (hv_I x2))]) hc dX11_done_36 (by decide) rfl ?_
      refine hv_iconst hc dX11_done_38 ?_
      refine hv_istore (lv' := [(5, .int (hv_I 0)), (4, .int (hv_I 0)), (3, .int (hv_I r6)), (0, .ref (hv_ad X 65)), (1, .int (hv_I x1)), (2, .int (hv_I x2))]) hc dX11_done_39 (by decide) rfl ?_
      refine hv_iconst hc dX11_done_41 ?_
      refine hv_istore (lv' := [(6, .int (hv_I 0)), (5, .int (hv_I 0)), (4, .int (hv_I 0)), (3, .int (hv_I r6)), (0, .ref (hv_ad X 65)), (1, .int (hv_I x1)), (2, .int (hv_I x2))]) hc dX11_done_42 (by decide) rfl ?_
      refine hv_iconst hc dX11_done_44 ?_
      refine hv_istore (lv' := [(7, .int (hv_I 0)), (6, .int (hv_I 0)), (5, .int (hv_I 0)), (4, .int (hv_I 0)), (3, .int (hv_I r6)), (0, .ref (hv_ad X 65)), (1, .int (hv_I x1)), (2, .int (hv_I x2))]) hc dX11_done_45 (by decide) rfl ?_
      refine hv_iconst hc dX11_done_47 ?_
      refine hv_istore (lv' := [(8, .int (hv_I 0)), (7, .int (hv_I 0)), (6, .int (hv_I 0)), (5, .int (hv_I 0)), (4, .int (hv_I 0)), (3, .int (hv_I r6)), (0, .ref (hv_ad X 65)), (1, .int (hv_I x1)), (2, .int (hv_I x2))]) hc dX11_done_48 (by decide) rfl ?_
      exact hv_pick [6, 8, 5, 4, 3, 2, 1, 0] rfl (g_X11_done_50 hc hv_FU x2 r6 0 0 0 0 0 m7)
    · refine hv_bipush hc dX11_done_20 (by decide) ?_
      exact hv_iret hc dX11_done_22
def f_X11_hand (x1 x2 : Int) (mem : hMem) : hRs := hv_b (f_X11_isVersion x1 mem) (fun r1 m2 => hv_eq r1 0 (hv_ret ((-2)) m2) (hv_lt x2 0 (hv_ret ((-2)) m2) (hv_ald m2 66 216 1 (fun v3 => hv_b (f_X11_does x1 v3 m2) (fun r4 m5 => hv_lt x2 r4 (hv_ald m5 84 54 x2 (fun v6 => hv_ret v6 m5)) (hv_ret ((-1)) m5))))))
set_option maxRecDepth 100000 in
set_option maxHeartbeats 4000000 in
theorem c_X11_hand (x1 x2 : Int) (mem : hMem) : hv_Met 78 0 0 0 yX11_hand cX11_hand 3 (some FieldType.int) (fun ad _ _ => [.ref (ad 65), .int (hv_I x1), .int (hv_I x2)]) mem (f_X11_hand x1 x2 mem) := by
  refine hv_start (by decide +kernel) (fun _ _ _ => Nat.le_of_ble_eq_true rfl) ?_
  intro X hc
  have hc : hv_C X cX11_hand 3 RX11 (some FieldType.int) 78 0 0 := hc
  show hv_R X 3 0 0 (hv_QX X 0 0 0) (f_X11_hand x1 x2 mem) mem [] [(0, .ref (hv_ad X 65)), (1, .int (hv_I x1)), (2, .int (hv_I x2))] [] 0
  unfold f_X11_hand
  refine hv_aload_n hc dX11_hand_0 rfl (hv_m 0 rfl) ?_
  refine hv_iload_n hc dX11_hand_1 rfl (hv_m 1 rfl) ?_
  refine hv_callVi hc (c_X11_isVersion x1 mem) yv_X11_isVersion tw_1308 sh_o_65 rfl rfl rfl rfl (Nat.le_of_ble_eq_true rfl) (Nat.le_of_ble_eq_true rfl) (Nat.zero_le _) (Nat.zero_le _) dX11_hand_2 (fun r1 m2 => ?_)
  refine hv_if_eq (tgt := 12) hc dX11_hand_5 (by decide) ?_ ?_
  · refine hv_bipush hc dX11_hand_12 (by decide) ?_
    exact hv_iret hc dX11_hand_14
  · refine hv_iload_n hc dX11_hand_8 rfl (hv_m 2 rfl) ?_
    refine hv_if_ge (tgt := 15) hc dX11_hand_9 (by decide) ?_ ?_
    · refine hv_iload_n hc dX11_hand_15 rfl (hv_m 2 rfl) ?_
      refine hv_aload_n hc dX11_hand_16 rfl (hv_m 0 rfl) ?_
      refine hv_iload_n hc dX11_hand_17 rfl (hv_m 1 rfl) ?_
      refine hv_aload_n hc dX11_hand_18 rfl (hv_m 0 rfl) ?_
      refine hv_getR hc fl_X11_9 sh_o_65 rfl dX11_hand_19 ?_
      refine hv_iconst hc dX11_hand_22 ?_
      refine hv_iaload hc sh_a_66 (Nat.le_of_ble_eq_true rfl) dX11_hand_23 (fun v3 => ?_)
      refine hv_callVi hc (c_X11_does x1 v3 m2) yv_X11_does tw_1579 sh_o_65 rfl rfl rfl rfl (Nat.le_of_ble_eq_true rfl) (Nat.le_of_ble_eq_true rfl) (Nat.zero_le _) (Nat.zero_le _) dX11_hand_24 (fun r4 m5 => ?_)
      refine hv_icmp_ge (tgt := 39) hc dX11_hand_27 (by decide) ?_ ?_
      · refine hv_iconst hc dX11_hand_39 ?_
        exact hv_iret hc dX11_hand_40
      · refine hv_aload_n hc dX11_hand_30 rfl (hv_m 0 rfl) ?_
        refine hv_getR hc fl_X11_69 sh_o_65 rfl dX11_hand_31 ?_
        refine hv_iload_n hc dX11_hand_34 rfl (hv_m 2 rfl) ?_
        refine hv_iaload hc sh_a_84 (Nat.le_of_ble_eq_true rfl) dX11_hand_35 (fun v6 => ?_)
        refine hv_goto (tgt := 40) hc dX11_hand_36 (by decide) ?_
        exact hv_iret hc dX11_hand_40
    · refine hv_bipush hc dX11_hand_12 (by decide) ?_
      exact hv_iret hc dX11_hand_14
def f_X11_ends (x1 x2 : Int) (mem : hMem) : hRs := hv_b (f_X11_isVersion x1 mem) (fun r1 m2 => hv_eq r1 0 (hv_ret ((-2)) m2) (hv_lt x2 0 (hv_ret ((-2)) m2) (hv_ald m2 66 216 1 (fun v3 => hv_b (f_X11_does x1 v3 m2) (fun r4 m5 => hv_lt x2 r4 (hv_ald m5 85 54 x2 (fun v6 => hv_ret v6 m5)) (hv_ret ((-1)) m5))))))
set_option maxRecDepth 100000 in
set_option maxHeartbeats 4000000 in
theorem c_X11_ends (x1 x2 : Int) (mem : hMem) : hv_Met 78 0 0 0 yX11_ends cX11_ends 3 (some FieldType.int) (fun ad _ _ => [.ref (ad 65), .int (hv_I x1), .int (hv_I x2)]) mem (f_X11_ends x1 x2 mem) := by
  refine hv_start (by decide +kernel) (fun _ _ _ => Nat.le_of_ble_eq_true rfl) ?_
  intro X hc
  have hc : hv_C X cX11_ends 3 RX11 (some FieldType.int) 78 0 0 := hc
  show hv_R X 3 0 0 (hv_QX X 0 0 0) (f_X11_ends x1 x2 mem) mem [] [(0, .ref (hv_ad X 65)), (1, .int (hv_I x1)), (2, .int (hv_I x2))] [] 0
  unfold f_X11_ends
  refine hv_aload_n hc dX11_ends_0 rfl (hv_m 0 rfl) ?_
  refine hv_iload_n hc dX11_ends_1 rfl (hv_m 1 rfl) ?_
  refine hv_callVi hc (c_X11_isVersion x1 mem) yv_X11_isVersion tw_1308 sh_o_65 rfl rfl rfl rfl (Nat.le_of_ble_eq_true rfl) (Nat.le_of_ble_eq_true rfl) (Nat.zero_le _) (Nat.zero_le _) dX11_ends_2 (fun r1 m2 => ?_)
  refine hv_if_eq (tgt := 12) hc dX11_ends_5 (by decide) ?_ ?_
  · refine hv_bipush hc dX11_ends_12 (by decide) ?_
    exact hv_iret hc dX11_ends_14
  · refine hv_iload_n hc dX11_ends_8 rfl (hv_m 2 rfl) ?_
    refine hv_if_ge (tgt := 15) hc dX11_ends_9 (by decide) ?_ ?_
    · refine hv_iload_n hc dX11_ends_15 rfl (hv_m 2 rfl) ?_
      refine hv_aload_n hc dX11_ends_16 rfl (hv_m 0 rfl) ?_
      refine hv_iload_n hc dX11_ends_17 rfl (hv_m 1 rfl) ?_
      refine hv_aload_n hc dX11_ends_18 rfl (hv_m 0 rfl) ?_
      refine hv_getR hc fl_X11_9 sh_o_65 rfl dX11_ends_19 ?_
      refine hv_iconst hc dX11_ends_22 ?_
      refine hv_iaload hc sh_a_66 (Nat.le_of_ble_eq_true rfl) dX11_ends_23 (fun v3 => ?_)
      refine hv_callVi hc (c_X11_does x1 v3 m2) yv_X11_does tw_1579 sh_o_65 rfl rfl rfl rfl (Nat.le_of_ble_eq_true rfl) (Nat.le_of_ble_eq_true rfl) (Nat.zero_le _) (Nat.zero_le _) dX11_ends_24 (fun r4 m5 => ?_)
      refine hv_icmp_ge (tgt := 39) hc dX11_ends_27 (by decide) ?_ ?_
      · refine hv_iconst hc dX11_ends_39 ?_
        exact hv_iret hc dX11_ends_40
      · refine hv_aload_n hc dX11_ends_30 rfl (hv_m 0 rfl) ?_
        refine hv_getR hc fl_X11_72 sh_o_65 rfl dX11_ends_31 ?_
        refine hv_iload_n hc dX11_ends_34 rfl (hv_m 2 rfl) ?_
        refine hv_iaload hc sh_a_85 (Nat.le_of_ble_eq_true rfl) dX11_ends_35 (fun v6 => ?_)
        refine hv_goto (tgt := 40) hc dX11_ends_36 (by decide) ?_
        exact hv_iret hc dX11_ends_40
    · refine hv_bipush hc dX11_ends_12 (by decide) ?_
      exact hv_iret hc dX11_ends_14
def B_X11_hands_32 (R13 : Int → Int → hMem → hRs) (R32 : Int → Int → Int → Int → Int → hMem → hRs) (x1 x2 x3 x4 x5 : Int) (mem : hMem) : hRs := hv_lt x5 x3 (hv_eq x4 0 (hv_ald mem 85 54 x5 (fun v3 => hv_ald mem 80 54 x5 (fun v4 => hv_ald mem 66 216 (126 + v4) (fun v5 => hv_lt v5 v3 (hv_set (x5 + 1) (fun y7 => R32 x1 x2 x3 1 y7 mem)) (hv_set (x5 + 1) (fun y6 => R32 x1 x2 x3 0 y6 mem)))))) (hv_set (x5 + 1) (fun y2 => R32 x1 x2 x3 1 y2 mem))) (hv_eq x4 0 (hv_ret x2 mem) (hv_set (x2 + 1) (fun y1 => R13 x1 y1 mem)))
def L_X11_hands_32 (R13 : Int → Int → hMem → hRs) : Nat → Int → Int → Int → Int → Int → hMem → hRs
  | 0 => fun _ _ _ _ _ _ => none
  | n + 1 => B_X11_hands_32 R13 (L_X11_hands_32 R13 n)
set_option maxRecDepth 100000 in
theorem gB_X11_hands_32 {X : hv_X} (hc : hv_C X cX11_hands 6 RX11 (some FieldType.int) 78 0 0) (R13 : Int → Int → hMem → hRs) (hR13 : ∀ (x1 x2 : Int) (mem : hMem), hv_R X 6 0 0 (hv_QX X 0 0 0) (R13 x1 x2 mem) mem [] [(0, .ref (hv_ad X 65)), (1, .int (hv_I x1)), (2, .int (hv_I x2))] [] 13) (R32 : Int → Int → Int → Int → Int → hMem → hRs) (hR32 : ∀ (x1 x2 x3 x4 x5 : Int) (mem : hMem), hv_R X 6 0 0 (hv_QX X 0 0 0) (R32 x1 x2 x3 x4 x5 mem) mem [] [(0, .ref (hv_ad X 65)), (1, .int (hv_I x1)), (2, .int (hv_I x2)), (3, .int (hv_I x3)), (4, .int (hv_I x4)), (5, .int (hv_I x5))] [] 32) (x1 x2 x3 x4 x5 : Int) (mem : hMem) : hv_R X 6 0 0 (hv_QX X 0 0 0) (B_X11_hands_32 R13 R32 x1 x2 x3 x4 x5 mem) mem [] [(0, .ref (hv_ad X 65)), (1, .int (hv_I x1)), (2, .int (hv_I x2)), (3, .int (hv_I x3)), (4, .int (hv_I x4)), (5, .int (hv_I x5))] [] 32 := by
  unfold B_X11_hands_32
  refine hv_iload hc dX11_hands_32 (hv_m 5 rfl) ?_
  refine hv_iload_n hc dX11_hands_34 rfl (hv_m 3 rfl) ?_
  refine hv_icmp_ge (tgt := 81) hc dX11_hands_35 (by decide) ?_ ?_
  · refine hv_iload hc dX11_hands_81 (hv_m 4 rfl) ?_
    refine hv_if_ne (tgt := 88) hc dX11_hands_83 (by decide) ?_ ?_
    · refine hv_iinc_s (lvf := fun y1 => [(2, .int (hv_I y1)), (0, .ref (hv_ad X 65)), (1, .int (hv_I x1)), (3, .int (hv_I x3)), (4, .int (hv_I x4)), (5, .int (hv_I x5))]) hc dX11_hands_88 (by decide) (hv_m 2 rfl) (fun _ => rfl) (fun y1 => ?_)
      refine hv_goto (tgt := 13) hc dX11_hands_91 (by decide) ?_
      exact hv_pick [1, 2, 0] rfl (hR13 x1 y1 mem)
    · refine hv_iload_n hc dX11_hands_86 rfl (hv_m 2 rfl) ?_
      exact hv_iret hc dX11_hands_87
  · refine hv_iload hc dX11_hands_38 (hv_m 4 rfl) ?_
    refine hv_if_ne (tgt := 68) hc dX11_hands_40 (by decide) ?_ ?_
    · refine hv_iconst hc dX11_hands_68 ?_
      refine hv_goto (tgt := 73) hc dX11_hands_69 (by decide) ?_
      refine hv_istore (lv' := [(4, .int (hv_I 1)), (0, .ref (hv_ad X 65)), (1, .int (hv_I x1)), (2, .int (hv_I x2)), (3, .int (hv_I x3)), (5, .int (hv_I x5))]) hc dX11_hands_73 (by decide) rfl ?_
      refine hv_iinc_s (lvf := fun y2 => [(5, .int (hv_I y2)), (4, .int (hv_I 1)), (0, .ref (hv_ad X 65)), (1, .int (hv_I x1)), (2, .int (hv_I x2)), (3, .int (hv_I x3))]) hc dX11_hands_75 (by decide) (hv_m 5 rfl) (fun _ => rfl) (fun y2 => ?_)
      refine hv_goto (tgt := 32) hc dX11_hands_78 (by decide) ?_
      exact hv_pick [2, 3, 4, 5, 1, 0] rfl (hR32 x1 x2 x3 1 y2 mem)
    · refine hv_aload_n hc dX11_hands_43 rfl (hv_m 0 rfl) ?_
      refine hv_getR hc fl_X11_72 sh_o_65 rfl dX11_hands_44 ?_
      refine hv_iload hc dX11_hands_47 (hv_m 5 rfl) ?_
      refine hv_iaload hc sh_a_85 (Nat.le_of_ble_eq_true rfl) dX11_hands_49 (fun v3 => ?_)
      refine hv_aload_n hc dX11_hands_50 rfl (hv_m 0 rfl) ?_
      refine hv_getR hc fl_X11_9 sh_o_65 rfl dX11_hands_51 ?_
      refine hv_bipush hc dX11_hands_54 (by decide) ?_
      refine hv_aload_n hc dX11_hands_56 rfl (hv_m 0 rfl) ?_
      refine hv_getR hc fl_X11_57 sh_o_65 rfl dX11_hands_57 ?_
      refine hv_iload hc dX11_hands_60 (hv_m 5 rfl) ?_
      refine hv_iaload hc sh_a_80 (Nat.le_of_ble_eq_true rfl) dX11_hands_62 (fun v4 => ?_)
      refine hv_iadd hc dX11_hands_63 ?_
      refine hv_iaload hc sh_a_66 (Nat.le_of_ble_eq_true rfl) dX11_hands_64 (fun v5 => ?_)
      refine hv_icmp_le (tgt := 72) hc dX11_hands_65 (by decide) ?_ ?_
      · refine hv_iconst hc dX11_hands_72 ?_
        refine hv_istore (lv' := [(4, .int (hv_I 0)), (0, .ref (hv_ad X 65)), (1, .int (hv_I x1)), (2, .int (hv_I x2)), (3, .int (hv_I x3)), (5, .int (hv_I x5))]) hc dX11_hands_73 (by decide) rfl ?_
        refine hv_iinc_s (lvf := fun y6 => [(5, .int (hv_I y6)), (4, .int (hv_I 0)), (0, .ref (hv_ad X 65)), (1, .int (hv_I x1)), (2, .int (hv_I x2)), (3, .int (hv_I x3))]) hc dX11_hands_75 (by decide) (hv_m 5 rfl) (fun _ => rfl) (fun y6 => ?_)
        refine hv_goto (tgt := 32) hc dX11_hands_78 (by decide) ?_
        exact hv_pick [2, 3, 4, 5, 1, 0] rfl (hR32 x1 x2 x3 0 y6 mem)
      · refine hv_iconst hc dX11_hands_68 ?_
        refine hv_goto (tgt := 73) hc dX11_hands_69 (by decide) ?_
        refine hv_istore (lv' := [(4, .int (hv_I 1)), (0, .ref (hv_ad X 65)), (1, .int (hv_I x1)), (2, .int (hv_I x2)), (3, .int (hv_I x3)), (5, .int (hv_I x5))]) hc dX11_hands_73 (by decide) rfl ?_
        refine hv_iinc_s (lvf := fun y7 => [(5, .int (hv_I y7)), (4, .int (hv_I 1)), (0, .ref (hv_ad X 65)), (1, .int (hv_I x1)), (2, .int (hv_I x2)), (3, .int (hv_I x3))]) hc dX11_hands_75 (by decide) (hv_m 5 rfl) (fun _ => rfl) (fun y7 => ?_)
        refine hv_goto (tgt := 32) hc dX11_hands_78 (by decide) ?_
        exact hv_pick [2, 3, 4, 5, 1, 0] rfl (hR32 x1 x2 x3 1 y7 mem)
theorem g_X11_hands_32 {X : hv_X} (hc : hv_C X cX11_hands 6 RX11 (some FieldType.int) 78 0 0) (R13 : Int → Int → hMem → hRs) (hR13 : ∀ (x1 x2 : Int) (mem : hMem), hv_R X 6 0 0 (hv_QX X 0 0 0) (R13 x1 x2 mem) mem [] [(0, .ref (hv_ad X 65)), (1, .int (hv_I x1)), (2, .int (hv_I x2))] [] 13) : ∀ (n : Nat) (x1 x2 x3 x4 x5 : Int) (mem : hMem), hv_R X 6 0 0 (hv_QX X 0 0 0) (L_X11_hands_32 R13 n x1 x2 x3 x4 x5 mem) mem [] [(0, .ref (hv_ad X 65)), (1, .int (hv_I x1)), (2, .int (hv_I x2)), (3, .int (hv_I x3)), (4, .int (hv_I x4)), (5, .int (hv_I x5))] [] 32 := by
  intro n
  induction n with
  | zero => intros; exact hv_none
  | succ n ih => exact gB_X11_hands_32 hc R13 hR13 _ ih
def B_X11_hands_13 (R13 : Int → Int → hMem → hRs) (x1 x2 : Int) (mem : hMem) : hRs := hv_lt 8 x2 (hv_ret ((-1)) mem) (hv_b (f_X11_does x1 x2 mem) (fun r1 m2 => L_X11_hands_32 R13 hv_FU x1 x2 r1 0 0 m2))
def L_X11_hands_13 : Nat → Int → Int → hMem → hRs
  | 0 => fun _ _ _ => none
  | n + 1 => B_X11_hands_13 (L_X11_hands_13 n)
set_option maxRecDepth 100000 in
theorem gB_X11_hands_13 {X : hv_X} (hc : hv_C X cX11_hands 6 RX11 (some FieldType.int) 78 0 0) (R13 : Int → Int → hMem → hRs) (hR13 : ∀ (x1 x2 : Int) (mem : hMem), hv_R X 6 0 0 (hv_QX X 0 0 0) (R13 x1 x2 mem) mem [] [(0, .ref (hv_ad X 65)), (1, .int (hv_I x1)), (2, .int (hv_I x2))] [] 13) (x1 x2 : Int) (mem : hMem) : hv_R X 6 0 0 (hv_QX X 0 0 0) (B_X11_hands_13 R13 x1 x2 mem) mem [] [(0, .ref (hv_ad X 65)), (1, .int (hv_I x1)), (2, .int (hv_I x2))] [] 13 := by
  unfold B_X11_hands_13
  refine hv_iload_n hc dX11_hands_13 rfl (hv_m 2 rfl) ?_
  refine hv_bipush hc dX11_hands_14 (by decide) ?_
  refine hv_icmp_gt (tgt := 94) hc dX11_hands_16 (by decide) ?_ ?_
  · refine hv_iconst hc dX11_hands_94 ?_
    exact hv_iret hc dX11_hands_95
  · refine hv_aload_n hc dX11_hands_19 rfl (hv_m 0 rfl) ?_
    refine hv_iload_n hc dX11_hands_20 rfl (hv_m 1 rfl) ?_
    refine hv_iload_n hc dX11_hands_21 rfl (hv_m 2 rfl) ?_
    refine hv_callVi hc (c_X11_does x1 x2 mem) yv_X11_does tw_1579 sh_o_65 rfl rfl rfl rfl (Nat.le_of_ble_eq_true rfl) (Nat.le_of_ble_eq_true rfl) (Nat.zero_le _) (Nat.zero_le _) dX11_hands_22 (fun r1 m2 => ?_)
    refine hv_istore_n (lv' := [(3, .int (hv_I r1)), (0, .ref (hv_ad X 65)), (1, .int (hv_I x1)), (2, .int (hv_I x2))]) hc dX11_hands_25 rfl (by decide) rfl ?_
    refine hv_iconst hc dX11_hands_26 ?_
    refine hv_istore (lv' := [(4, .int (hv_I 0)), (3, .int (hv_I r1)), (0, .ref (hv_ad X 65)), (1, .int (hv_I x1)), (2, .int (hv_I x2))]) hc dX11_hands_27 (by decide) rfl ?_
    refine hv_iconst hc dX11_hands_29 ?_
    refine hv_istore (lv' := [(5, .int (hv_I 0)), (4, .int (hv_I 0)), (3, .int (hv_I r1)), (0, .ref (hv_ad X 65)), (1, .int (hv_I x1)), (2, .int (hv_I x2))]) hc dX11_hands_30 (by decide) rfl ?_
    exact hv_pick [3, 4, 5, 2, 1, 0] rfl (g_X11_hands_32 hc R13 hR13 hv_FU x1 x2 r1 0 0 m2)
theorem g_X11_hands_13 {X : hv_X} (hc : hv_C X cX11_hands 6 RX11 (some FieldType.int) 78 0 0) : ∀ (n : Nat) (x1 x2 : Int) (mem : hMem), hv_R X 6 0 0 (hv_QX X 0 0 0) (L_X11_hands_13 n x1 x2 mem) mem [] [(0, .ref (hv_ad X 65)), (1, .int (hv_I x1)), (2, .int (hv_I x2))] [] 13 := by
  intro n
  induction n with
  | zero => intros; exact hv_none
  | succ n ih => exact gB_X11_hands_13 hc _ ih
def f_X11_hands (x1 : Int) (mem : hMem) : hRs := hv_b (f_X11_isVersion x1 mem) (fun r1 m2 => hv_eq r1 0 (hv_ret ((-2)) m2) (L_X11_hands_13 hv_FU x1 1 m2))
set_option maxRecDepth 100000 in
set_option maxHeartbeats 4000000 in
theorem c_X11_hands (x1 : Int) (mem : hMem) : hv_Met 78 0 0 0 yX11_hands cX11_hands 6 (some FieldType.int) (fun ad _ _ => [.ref (ad 65), .int (hv_I x1)]) mem (f_X11_hands x1 mem) := by
  refine hv_start (by decide +kernel) (fun _ _ _ => Nat.le_of_ble_eq_true rfl) ?_
  intro X hc
  have hc : hv_C X cX11_hands 6 RX11 (some FieldType.int) 78 0 0 := hc
  show hv_R X 6 0 0 (hv_QX X 0 0 0) (f_X11_hands x1 mem) mem [] [(0, .ref (hv_ad X 65)), (1, .int (hv_I x1))] [] 0
  unfold f_X11_hands
  refine hv_aload_n hc dX11_hands_0 rfl (hv_m 0 rfl) ?_
  refine hv_iload_n hc dX11_hands_1 rfl (hv_m 1 rfl) ?_
  refine hv_callVi hc (c_X11_isVersion x1 mem) yv_X11_isVersion tw_1308 sh_o_65 rfl rfl rfl rfl (Nat.le_of_ble_eq_true rfl) (Nat.le_of_ble_eq_true rfl) (Nat.zero_le _) (Nat.zero_le _) dX11_hands_2 (fun r1 m2 => ?_)
  refine hv_if_ne (tgt := 11) hc dX11_hands_5 (by decide) ?_ ?_
  · refine hv_iconst hc dX11_hands_11 ?_
    refine hv_istore_n (lv' := [(2, .int (hv_I 1)), (0, .ref (hv_ad X 65)), (1, .int (hv_I x1))]) hc dX11_hands_12 rfl (by decide) rfl ?_
    exact hv_pick [1, 2, 0] rfl (g_X11_hands_13 hc hv_FU x1 1 m2)
  · refine hv_bipush hc dX11_hands_8 (by decide) ?_
    exact hv_iret hc dX11_hands_10
def f_X11_acts (x1 x2 x3 x4 x5 x6 : Int) (mem : hMem) : hRs := hv_ald mem 66 216 2 (fun v1 => hv_eq v1 30 (hv_ret ((-5)) mem) (hv_eq x6 0 (hv_b (f_X11_makes x1 x2 x3 x4 x5 mem) (fun r2 m3 => hv_ald m3 66 216 2 (fun v4 => hv_ret (v4 - 1) m3))) (hv_ret ((-3)) mem)))
set_option maxRecDepth 100000 in
set_option maxHeartbeats 4000000 in
theorem c_X11_acts (x1 x2 x3 x4 x5 x6 : Int) (mem : hMem) : hv_Met 1 0 0 0 yX11_acts cX11_acts 7 (some FieldType.int) (fun ad _ _ => [.ref (ad 65), .int (hv_I x1), .int (hv_I x2), .int (hv_I x3), .int (hv_I x4), .int (hv_I x5), .int (hv_I x6)]) mem (f_X11_acts x1 x2 x3 x4 x5 x6 mem) := by
  refine hv_start (by decide +kernel) (fun _ _ _ => Nat.le_of_ble_eq_true rfl) ?_
  intro X hc
  have hc : hv_C X cX11_acts 7 RX11 (some FieldType.int) 1 0 0 := hc
  show hv_R X 7 0 0 (hv_QX X 0 0 0) (f_X11_acts x1 x2 x3 x4 x5 x6 mem) mem [] [(0, .ref (hv_ad X 65)), (1, .int (hv_I x1)), (2, .int (hv_I x2)), (3, .int (hv_I x3)), (4, .int (hv_I x4)), (5, .int (hv_I x5)), (6, .int (hv_I x6))] [] 0
  unfold f_X11_acts
  refine hv_aload_n hc dX11_acts_0 rfl (hv_m 0 rfl) ?_
  refine hv_getR hc fl_X11_9 sh_o_65 rfl dX11_acts_1 ?_
  refine hv_iconst hc dX11_acts_4 ?_
  refine hv_iaload hc sh_a_66 (Nat.le_of_ble_eq_true rfl) dX11_acts_5 (fun v1 => ?_)
  refine hv_bipush hc dX11_acts_6 (by decide) ?_
  refine hv_icmp_ne (tgt := 14) hc dX11_acts_8 (by decide) ?_ ?_
  · refine hv_iload hc dX11_acts_14 (hv_m 6 rfl) ?_
    refine hv_if_eq (tgt := 22) hc dX11_acts_16 (by decide) ?_ ?_
    · refine hv_aload_n hc dX11_acts_22 rfl (hv_m 0 rfl) ?_
      refine hv_iload_n hc dX11_acts_23 rfl (hv_m 1 rfl) ?_
      refine hv_iload_n hc dX11_acts_24 rfl (hv_m 2 rfl) ?_
      refine hv_iload_n hc dX11_acts_25 rfl (hv_m 3 rfl) ?_
      refine hv_iload hc dX11_acts_26 (hv_m 4 rfl) ?_
      refine hv_iload hc dX11_acts_28 (hv_m 5 rfl) ?_
      refine hv_callVv hc (c_X11_makes x1 x2 x3 x4 x5 mem) yv_X11_makes tw_1292 sh_o_65 rfl rfl rfl rfl (Nat.le_of_ble_eq_true rfl) (Nat.le_of_ble_eq_true rfl) (Nat.zero_le _) (Nat.zero_le _) dX11_acts_30 (fun r2 m3 => ?_)
      refine hv_aload_n hc dX11_acts_33 rfl (hv_m 0 rfl) ?_
      refine hv_getR hc fl_X11_9 sh_o_65 rfl dX11_acts_34 ?_
      refine hv_iconst hc dX11_acts_37 ?_
      refine hv_iaload hc sh_a_66 (Nat.le_of_ble_eq_true rfl) dX11_acts_38 (fun v4 => ?_)
      refine hv_iconst hc dX11_acts_39 ?_
      refine hv_isub hc dX11_acts_40 ?_
      exact hv_iret hc dX11_acts_41
    · refine hv_bipush hc dX11_acts_19 (by decide) ?_
      exact hv_iret hc dX11_acts_21
  · refine hv_bipush hc dX11_acts_11 (by decide) ?_
    exact hv_iret hc dX11_acts_13
def J_X11_puts_61 (s1 s2 s3 s4 s5 s6 : Int) (mem : hMem) : hRs := hv_b (f_X11_acts s1 s2 s3 s4 s5 s6 mem) (fun r1 m2 => hv_ret r1 m2)
set_option maxRecDepth 100000 in
theorem g_X11_puts_61 {X : hv_X} (hc : hv_C X cX11_puts 4 RX11 (some FieldType.int) 2 0 0) (s1 s2 s3 s4 s5 s6 : Int) (mem : hMem) : hv_R X 4 0 0 (hv_QX X 0 0 0) (J_X11_puts_61 s1 s2 s3 s4 s5 s6 mem) mem [] [] [.int (hv_I s6), .int (hv_I s5), .int (hv_I s4), .int (hv_I s3), .int (hv_I s2), .int (hv_I s1), .ref (hv_ad X 65)] 61 := by
  unfold J_X11_puts_61
  refine hv_callVi hc (c_X11_acts s1 s2 s3 s4 s5 s6 mem) yv_X11_acts tw_1601 sh_o_65 rfl rfl rfl rfl (Nat.le_of_ble_eq_true rfl) (Nat.le_of_ble_eq_true rfl) (Nat.zero_le _) (Nat.zero_le _) dX11_puts_61 (fun r1 m2 => ?_)
  exact hv_iret hc dX11_puts_64
def f_X11_puts (x1 x2 x3 : Int) (mem : hMem) : hRs := hv_b (f_X11_isVersion x1 mem) (fun r1 m2 => hv_eq r1 0 (hv_ret ((-2)) m2) (hv_rg x2 (hv_b (f_X11_in x2 0 999 m2) (fun r3 m4 => hv_eq r3 0 (hv_ret ((-2)) m4) (hv_rg x3 (hv_b (f_X11_in x3 1 99 m4) (fun r5 m6 => hv_eq r5 0 (hv_ret ((-2)) m6) (hv_ald m6 66 216 (186 + x1) (fun v7 => hv_eq v7 24 (J_X11_puts_61 1 x1 ((-1)) x2 x3 1 m6) (J_X11_puts_61 1 x1 ((-1)) x2 x3 0 m6))))))))))
set_option maxRecDepth 100000 in
set_option maxHeartbeats 4000000 in
theorem c_X11_puts (x1 x2 x3 : Int) (mem : hMem) : hv_Met 2 0 0 0 yX11_puts cX11_puts 4 (some FieldType.int) (fun ad _ _ => [.ref (ad 65), .int (hv_I x1), .int (hv_I x2), .int (hv_I x3)]) mem (f_X11_puts x1 x2 x3 mem) := by
  refine hv_start (by decide +kernel) (fun _ _ _ => Nat.le_of_ble_eq_true rfl) ?_
  intro X hc
  have hc : hv_C X cX11_puts 4 RX11 (some FieldType.int) 2 0 0 := hc
  show hv_R X 4 0 0 (hv_QX X 0 0 0) (f_X11_puts x1 x2 x3 mem) mem [] [(0, .ref (hv_ad X 65)), (1, .int (hv_I x1)), (2, .int (hv_I x2)), (3, .int (hv_I x3))] [] 0
  unfold f_X11_puts
  refine hv_aload_n hc dX11_puts_0 rfl (hv_m 0 rfl) ?_
  refine hv_iload_n hc dX11_puts_1 rfl (hv_m 1 rfl) ?_
  refine hv_callVi hc (c_X11_isVersion x1 mem) yv_X11_isVersion tw_1308 sh_o_65 rfl rfl rfl rfl (Nat.le_of_ble_eq_true rfl) (Nat.le_of_ble_eq_true rfl) (Nat.zero_le _) (Nat.zero_le _) dX11_puts_2 (fun r1 m2 => ?_)
  refine hv_if_eq (tgt := 32) hc dX11_puts_5 (by decide) ?_ ?_
  · refine hv_bipush hc dX11_puts_32 (by decide) ?_
    exact hv_iret hc dX11_puts_34
  · refine hv_iload_n hc dX11_puts_8 rfl (hv_m 2 rfl) ?_
    refine hv_i2l hc dX11_puts_9 ?_
    refine hv_lconst (k := 0) hc dX11_puts_10 (by decide) ?_
    refine hv_ldc2 (k := 999) hc tw_1599 (by decide) dX11_puts_11 ?_
    refine hv_callSi hc (c_X11_in x2 0 999 m2) ys_X11_in tw_1233 rfl rfl rfl (Nat.le_of_ble_eq_true rfl) (Nat.le_of_ble_eq_true rfl) (Nat.zero_le _) (Nat.zero_le _) dX11_puts_14 (fun r3 m4 => ?_)
    refine hv_if_eq (tgt := 32) hc dX11_puts_17 (by decide) ?_ ?_
    · refine hv_bipush hc dX11_puts_32 (by decide) ?_
      exact hv_iret hc dX11_puts_34
    · refine hv_iload_n hc dX11_puts_20 rfl (hv_m 3 rfl) ?_
      refine hv_i2l hc dX11_puts_21 ?_
      refine hv_lconst (k := 1) hc dX11_puts_22 (by decide) ?_
      refine hv_ldc2 (k := 99) hc tw_1600 (by decide) dX11_puts_23 ?_
      refine hv_callSi hc (c_X11_in x3 1 99 m4) ys_X11_in tw_1233 rfl rfl rfl (Nat.le_of_ble_eq_true rfl) (Nat.le_of_ble_eq_true rfl) (Nat.zero_le _) (Nat.zero_le _) dX11_puts_26 (fun r5 m6 => ?_)
      refine hv_if_ne (tgt := 35) hc dX11_puts_29 (by decide) ?_ ?_
      · refine hv_aload_n hc dX11_puts_35 rfl (hv_m 0 rfl) ?_
        refine hv_iconst hc dX11_puts_36 ?_
        refine hv_iload_n hc dX11_puts_37 rfl (hv_m 1 rfl) ?_
        refine hv_iconst hc dX11_puts_38 ?_
        refine hv_iload_n hc dX11_puts_39 rfl (hv_m 2 rfl) ?_
        refine hv_iload_n hc dX11_puts_40 rfl (hv_m 3 rfl) ?_
        refine hv_aload_n hc dX11_puts_41 rfl (hv_m 0 rfl) ?_
        refine hv_getR hc fl_X11_9 sh_o_65 rfl dX11_puts_42 ?_
        refine hv_sipush hc dX11_puts_45 (by decide) ?_
        refine hv_iload_n hc dX11_puts_48 rfl (hv_m 1 rfl) ?_
        refine hv_iadd hc dX11_puts_49 ?_
        refine hv_iaload hc sh_a_66 (Nat.le_of_ble_eq_true rfl) dX11_puts_50 (fun v7 => ?_)
        refine hv_bipush hc dX11_puts_51 (by decide) ?_
        refine hv_icmp_ne (tgt := 60) hc dX11_puts_53 (by decide) ?_ ?_
        · refine hv_iconst hc dX11_puts_60 ?_
          exact hv_pick [] rfl (g_X11_puts_61 hc 1 x1 ((-1)) x2 x3 0 m6)
        · refine hv_iconst hc dX11_puts_56 ?_
          refine hv_goto (tgt := 61) hc dX11_puts_57 (by decide) ?_
          exact hv_pick [] rfl (g_X11_puts_61 hc 1 x1 ((-1)) x2 x3 1 m6)
      · refine hv_bipush hc dX11_puts_32 (by decide) ?_
        exact hv_iret hc dX11_puts_34
def J_X11_joins__56 (s1 s2 s3 s4 s5 s6 : Int) (mem : hMem) : hRs := hv_b (f_X11_acts s1 s2 s3 s4 s5 s6 mem) (fun r1 m2 => hv_ret r1 m2)
set_option maxRecDepth 100000 in
theorem g_X11_joins__56 {X : hv_X} (hc : hv_C X cX11_joins_ 3 RX11 (some FieldType.int) 2 0 0) (s1 s2 s3 s4 s5 s6 : Int) (mem : hMem) : hv_R X 3 0 0 (hv_QX X 0 0 0) (J_X11_joins__56 s1 s2 s3 s4 s5 s6 mem) mem [] [] [.int (hv_I s6), .int (hv_I s5), .int (hv_I s4), .int (hv_I s3), .int (hv_I s2), .int (hv_I s1), .ref (hv_ad X 65)] 56 := by
  unfold J_X11_joins__56
  refine hv_callVi hc (c_X11_acts s1 s2 s3 s4 s5 s6 mem) yv_X11_acts tw_1601 sh_o_65 rfl rfl rfl rfl (Nat.le_of_ble_eq_true rfl) (Nat.le_of_ble_eq_true rfl) (Nat.zero_le _) (Nat.zero_le _) dX11_joins__56 (fun r1 m2 => ?_)
  exact hv_iret hc dX11_joins__59
def f_X11_joins_ (x1 x2 : Int) (mem : hMem) : hRs := hv_b (f_X11_isVersion x1 mem) (fun r1 m2 => hv_eq r1 0 (hv_ret ((-2)) m2) (hv_b (f_X11_isVersion x2 m2) (fun r3 m4 => hv_eq r3 0 (hv_ret ((-2)) m4) (hv_ald m4 66 216 (186 + x1) (fun v5 => hv_ald m4 66 216 (186 + x2) (fun v6 => hv_lt 24 (v5 + v6) (J_X11_joins__56 2 x1 x2 0 0 1 m4) (J_X11_joins__56 2 x1 x2 0 0 0 m4)))))))
set_option maxRecDepth 100000 in
set_option maxHeartbeats 4000000 in
theorem c_X11_joins_ (x1 x2 : Int) (mem : hMem) : hv_Met 2 0 0 0 yX11_joins_ cX11_joins_ 3 (some FieldType.int) (fun ad _ _ => [.ref (ad 65), .int (hv_I x1), .int (hv_I x2)]) mem (f_X11_joins_ x1 x2 mem) := by
  refine hv_start (by decide +kernel) (fun _ _ _ => Nat.le_of_ble_eq_true rfl) ?_
  intro X hc
  have hc : hv_C X cX11_joins_ 3 RX11 (some FieldType.int) 2 0 0 := hc
  show hv_R X 3 0 0 (hv_QX X 0 0 0) (f_X11_joins_ x1 x2 mem) mem [] [(0, .ref (hv_ad X 65)), (1, .int (hv_I x1)), (2, .int (hv_I x2))] [] 0
  unfold f_X11_joins_
  refine hv_aload_n hc dX11_joins__0 rfl (hv_m 0 rfl) ?_
  refine hv_iload_n hc dX11_joins__1 rfl (hv_m 1 rfl) ?_
  refine hv_callVi hc (c_X11_isVersion x1 mem) yv_X11_isVersion tw_1308 sh_o_65 rfl rfl rfl rfl (Nat.le_of_ble_eq_true rfl) (Nat.le_of_ble_eq_true rfl) (Nat.zero_le _) (Nat.zero_le _) dX11_joins__2 (fun r1 m2 => ?_)
  refine hv_if_eq (tgt := 16) hc dX11_joins__5 (by decide) ?_ ?_
  · refine hv_bipush hc dX11_joins__16 (by decide) ?_
    exact hv_iret hc dX11_joins__18
  · refine hv_aload_n hc dX11_joins__8 rfl (hv_m 0 rfl) ?_
    refine hv_iload_n hc dX11_joins__9 rfl (hv_m 2 rfl) ?_
    refine hv_callVi hc (c_X11_isVersion x2 m2) yv_X11_isVersion tw_1308 sh_o_65 rfl rfl rfl rfl (Nat.le_of_ble_eq_true rfl) (Nat.le_of_ble_eq_true rfl) (Nat.zero_le _) (Nat.zero_le _) dX11_joins__10 (fun r3 m4 => ?_)
    refine hv_if_ne (tgt := 19) hc dX11_joins__13 (by decide) ?_ ?_
    · refine hv_aload_n hc dX11_joins__19 rfl (hv_m 0 rfl) ?_
      refine hv_iconst hc dX11_joins__20 ?_
      refine hv_iload_n hc dX11_joins__21 rfl (hv_m 1 rfl) ?_
      refine hv_iload_n hc dX11_joins__22 rfl (hv_m 2 rfl) ?_
      refine hv_iconst hc dX11_joins__23 ?_
      refine hv_iconst hc dX11_joins__24 ?_
      refine hv_aload_n hc dX11_joins__25 rfl (hv_m 0 rfl) ?_
      refine hv_getR hc fl_X11_9 sh_o_65 rfl dX11_joins__26 ?_
      refine hv_sipush hc dX11_joins__29 (by decide) ?_
      refine hv_iload_n hc dX11_joins__32 rfl (hv_m 1 rfl) ?_
      refine hv_iadd hc dX11_joins__33 ?_
      refine hv_iaload hc sh_a_66 (Nat.le_of_ble_eq_true rfl) dX11_joins__34 (fun v5 => ?_)
      refine hv_aload_n hc dX11_joins__35 rfl (hv_m 0 rfl) ?_
      refine hv_getR hc fl_X11_9 sh_o_65 rfl dX11_joins__36 ?_
      refine hv_sipush hc dX11_joins__39 (by decide) ?_
      refine hv_iload_n hc dX11_joins__42 rfl (hv_m 2 rfl) ?_
      refine hv_iadd hc dX11_joins__43 ?_
      refine hv_iaload hc sh_a_66 (Nat.le_of_ble_eq_true rfl) dX11_joins__44 (fun v6 => ?_)
      refine hv_iadd hc dX11_joins__45 ?_
      refine hv_bipush hc dX11_joins__46 (by decide) ?_
      refine hv_icmp_le (tgt := 55) hc dX11_joins__48 (by decide) ?_ ?_
      · refine hv_iconst hc dX11_joins__55 ?_
        exact hv_pick [] rfl (g_X11_joins__56 hc 2 x1 x2 0 0 0 m4)
      · refine hv_iconst hc dX11_joins__51 ?_
        refine hv_goto (tgt := 56) hc dX11_joins__52 (by decide) ?_
        exact hv_pick [] rfl (g_X11_joins__56 hc 2 x1 x2 0 0 1 m4)
    · refine hv_bipush hc dX11_joins__16 (by decide) ?_
      exact hv_iret hc dX11_joins__18
def J_X11_takes__32 (s1 s2 s3 s4 s5 s6 : Int) (mem : hMem) : hRs := hv_b (f_X11_acts s1 s2 s3 s4 s5 s6 mem) (fun r1 m2 => hv_ret r1 m2)
set_option maxRecDepth 100000 in
theorem g_X11_takes__32 {X : hv_X} (hc : hv_C X cX11_takes_ 2 RX11 (some FieldType.int) 2 0 0) (s1 s2 s3 s4 s5 s6 : Int) (mem : hMem) : hv_R X 2 0 0 (hv_QX X 0 0 0) (J_X11_takes__32 s1 s2 s3 s4 s5 s6 mem) mem [] [] [.int (hv_I s6), .int (hv_I s5), .int (hv_I s4), .int (hv_I s3), .int (hv_I s2), .int (hv_I s1), .ref (hv_ad X 65)] 32 := by
  unfold J_X11_takes__32
  refine hv_callVi hc (c_X11_acts s1 s2 s3 s4 s5 s6 mem) yv_X11_acts tw_1601 sh_o_65 rfl rfl rfl rfl (Nat.le_of_ble_eq_true rfl) (Nat.le_of_ble_eq_true rfl) (Nat.zero_le _) (Nat.zero_le _) dX11_takes__32 (fun r1 m2 => ?_)
  refine hv_goto (tgt := 40) hc dX11_takes__35 (by decide) ?_
  exact hv_iret hc dX11_takes__40
def f_X11_takes_ (x1 : Int) (mem : hMem) : hRs := hv_b (f_X11_isVersion x1 mem) (fun r1 m2 => hv_eq r1 0 (hv_ret ((-2)) m2) (hv_ald m2 66 216 (186 + x1) (fun v3 => hv_eq v3 0 (J_X11_takes__32 3 x1 ((-1)) 0 0 1 m2) (J_X11_takes__32 3 x1 ((-1)) 0 0 0 m2))))
set_option maxRecDepth 100000 in
set_option maxHeartbeats 4000000 in
theorem c_X11_takes_ (x1 : Int) (mem : hMem) : hv_Met 2 0 0 0 yX11_takes_ cX11_takes_ 2 (some FieldType.int) (fun ad _ _ => [.ref (ad 65), .int (hv_I x1)]) mem (f_X11_takes_ x1 mem) := by
  refine hv_start (by decide +kernel) (fun _ _ _ => Nat.le_of_ble_eq_true rfl) ?_
  intro X hc
  have hc : hv_C X cX11_takes_ 2 RX11 (some FieldType.int) 2 0 0 := hc
  show hv_R X 2 0 0 (hv_QX X 0 0 0) (f_X11_takes_ x1 mem) mem [] [(0, .ref (hv_ad X 65)), (1, .int (hv_I x1))] [] 0
  unfold f_X11_takes_
  refine hv_aload_n hc dX11_takes__0 rfl (hv_m 0 rfl) ?_
  refine hv_iload_n hc dX11_takes__1 rfl (hv_m 1 rfl) ?_
  refine hv_callVi hc (c_X11_isVersion x1 mem) yv_X11_isVersion tw_1308 sh_o_65 rfl rfl rfl rfl (Nat.le_of_ble_eq_true rfl) (Nat.le_of_ble_eq_true rfl) (Nat.zero_le _) (Nat.zero_le _) dX11_takes__2 (fun r1 m2 => ?_)
  refine hv_if_eq (tgt := 38) hc dX11_takes__5 (by decide) ?_ ?_
  · refine hv_bipush hc dX11_takes__38 (by decide) ?_
    exact hv_iret hc dX11_takes__40
  · refine hv_aload_n hc dX11_takes__8 rfl (hv_m 0 rfl) ?_
    refine hv_iconst hc dX11_takes__9 ?_
    refine hv_iload_n hc dX11_takes__10 rfl (hv_m 1 rfl) ?_
    refine hv_iconst hc dX11_takes__11 ?_
    refine hv_iconst hc dX11_takes__12 ?_
    refine hv_iconst hc dX11_takes__13 ?_
    refine hv_aload_n hc dX11_takes__14 rfl (hv_m 0 rfl) ?_
    refine hv_getR hc fl_X11_9 sh_o_65 rfl dX11_takes__15 ?_
    refine hv_sipush hc dX11_takes__18 (by decide) ?_
    refine hv_iload_n hc dX11_takes__21 rfl (hv_m 1 rfl) ?_
    refine hv_iadd hc dX11_takes__22 ?_
    refine hv_iaload hc sh_a_66 (Nat.le_of_ble_eq_true rfl) dX11_takes__23 (fun v3 => ?_)
    refine hv_if_ne (tgt := 31) hc dX11_takes__24 (by decide) ?_ ?_
    · refine hv_iconst hc dX11_takes__31 ?_
      exact hv_pick [] rfl (g_X11_takes__32 hc 3 x1 ((-1)) 0 0 0 m2)
    · refine hv_iconst hc dX11_takes__27 ?_
      refine hv_goto (tgt := 32) hc dX11_takes__28 (by decide) ?_
      exact hv_pick [] rfl (g_X11_takes__32 hc 3 x1 ((-1)) 0 0 1 m2)
def J_X11_takesBack_40 (s1 s2 s3 : Int) (mem : hMem) : hRs := hv_ast mem 66 216 s1 (s2 - s3) (fun m1 => hv_ret 0 m1)
set_option maxRecDepth 100000 in
theorem g_X11_takesBack_40 {X : hv_X} (hc : hv_C X cX11_takesBack 1 RX11 (none) 0 0 0) (s1 s2 s3 : Int) (mem : hMem) : hv_R X 1 0 0 (hv_QX X 1 0 0) (J_X11_takesBack_40 s1 s2 s3 mem) mem [] [] [.int (hv_I s3), .int (hv_I s2), .int (hv_I s1), .ref (hv_ad X 66)] 40 := by
  unfold J_X11_takesBack_40
  refine hv_isub hc dX11_takesBack_40 ?_
  refine hv_iastore hc sh_a_66 (Nat.le_of_ble_eq_true rfl) dX11_takesBack_41 (fun m1 => ?_)
  exact hv_vret hc dX11_takesBack_42
def f_X11_takesBack (mem : hMem) : hRs := hv_ald mem 66 216 2 (fun v1 => hv_ast mem 66 216 2 (v1 - 1) (fun m2 => hv_ald m2 66 216 3 (fun v3 => hv_ald m2 66 216 2 (fun v4 => hv_ald m2 66 216 (6 + v4) (fun v5 => hv_eq v5 1 (J_X11_takesBack_40 3 v3 1 m2) (J_X11_takesBack_40 3 v3 0 m2))))))
set_option maxRecDepth 100000 in
set_option maxHeartbeats 4000000 in
theorem c_X11_takesBack (mem : hMem) : hv_Met 0 0 0 1 yX11_takesBack cX11_takesBack 1 (none) (fun ad _ _ => [.ref (ad 65)]) mem (f_X11_takesBack mem) := by
  refine hv_start (by decide +kernel) (fun _ _ _ => Nat.le_of_ble_eq_true rfl) ?_
  intro X hc
  have hc : hv_C X cX11_takesBack 1 RX11 (none) 0 0 0 := hc
  show hv_R X 1 0 0 (hv_QX X 1 0 0) (f_X11_takesBack mem) mem [] [(0, .ref (hv_ad X 65))] [] 0
  unfold f_X11_takesBack
  refine hv_aload_n hc dX11_takesBack_0 rfl (hv_m 0 rfl) ?_
  refine hv_getR hc fl_X11_9 sh_o_65 rfl dX11_takesBack_1 ?_
  refine hv_iconst hc dX11_takesBack_4 ?_
  refine hv_dup2 hc dX11_takesBack_5 rfl rfl ?_
  refine hv_iaload hc sh_a_66 (Nat.le_of_ble_eq_true rfl) dX11_takesBack_6 (fun v1 => ?_)
  refine hv_iconst hc dX11_takesBack_7 ?_
  refine hv_isub hc dX11_takesBack_8 ?_
  refine hv_iastore hc sh_a_66 (Nat.le_of_ble_eq_true rfl) dX11_takesBack_9 (fun m2 => ?_)
  refine hv_aload_n hc dX11_takesBack_10 rfl (hv_m 0 rfl) ?_
  refine hv_getR hc fl_X11_9 sh_o_65 rfl dX11_takesBack_11 ?_
  refine hv_iconst hc dX11_takesBack_14 ?_
  refine hv_dup2 hc dX11_takesBack_15 rfl rfl ?_
  refine hv_iaload hc sh_a_66 (Nat.le_of_ble_eq_true rfl) dX11_takesBack_16 (fun v3 => ?_)
  refine hv_aload_n hc dX11_takesBack_17 rfl (hv_m 0 rfl) ?_
  refine hv_getR hc fl_X11_9 sh_o_65 rfl dX11_takesBack_18 ?_
  refine hv_bipush hc dX11_takesBack_21 (by decide) ?_
  refine hv_aload_n hc dX11_takesBack_23 rfl (hv_m 0 rfl) ?_
  refine hv_getR hc fl_X11_9 sh_o_65 rfl dX11_takesBack_24 ?_
  refine hv_iconst hc dX11_takesBack_27 ?_
  refine hv_iaload hc sh_a_66 (Nat.le_of_ble_eq_true rfl) dX11_takesBack_28 (fun v4 => ?_)
  refine hv_iadd hc dX11_takesBack_29 ?_
  refine hv_iaload hc sh_a_66 (Nat.le_of_ble_eq_true rfl) dX11_takesBack_30 (fun v5 => ?_)
  refine hv_iconst hc dX11_takesBack_31 ?_
  refine hv_icmp_ne (tgt := 39) hc dX11_takesBack_32 (by decide) ?_ ?_
  · refine hv_iconst hc dX11_takesBack_39 ?_
    exact hv_pick [] rfl (g_X11_takesBack_40 hc 3 v3 0 m2)
  · refine hv_iconst hc dX11_takesBack_35 ?_
    refine hv_goto (tgt := 40) hc dX11_takesBack_36 (by decide) ?_
    exact hv_pick [] rfl (g_X11_takesBack_40 hc 3 v3 1 m2)
def f_X11_undo (mem : hMem) : hRs := hv_ald mem 66 216 5 (fun v1 => hv_eq v1 0 (hv_ret ((-2)) mem) (hv_ald mem 66 216 2 (fun v2 => hv_ald mem 66 216 4 (fun v3 => hv_eq v2 v3 (hv_ret ((-5)) mem) (hv_b (f_X11_takesBack mem) (fun r4 m5 => hv_ald m5 66 216 2 (fun v6 => hv_ald m5 66 216 4 (fun v7 => hv_ret (v6 - v7) m5))))))))
set_option maxRecDepth 100000 in
set_option maxHeartbeats 4000000 in
theorem c_X11_undo (mem : hMem) : hv_Met 1 0 0 0 yX11_undo cX11_undo 1 (some FieldType.int) (fun ad _ _ => [.ref (ad 65)]) mem (f_X11_undo mem) := by
  refine hv_start (by decide +kernel) (fun _ _ _ => Nat.le_of_ble_eq_true rfl) ?_
  intro X hc
  have hc : hv_C X cX11_undo 1 RX11 (some FieldType.int) 1 0 0 := hc
  show hv_R X 1 0 0 (hv_QX X 0 0 0) (f_X11_undo mem) mem [] [(0, .ref (hv_ad X 65))] [] 0
  unfold f_X11_undo
  refine hv_aload_n hc dX11_undo_0 rfl (hv_m 0 rfl) ?_
  refine hv_getR hc fl_X11_9 sh_o_65 rfl dX11_undo_1 ?_
  refine hv_iconst hc dX11_undo_4 ?_
  refine hv_iaload hc sh_a_66 (Nat.le_of_ble_eq_true rfl) dX11_undo_5 (fun v1 => ?_)
  refine hv_if_ne (tgt := 12) hc dX11_undo_6 (by decide) ?_ ?_
  · refine hv_aload_n hc dX11_undo_12 rfl (hv_m 0 rfl) ?_
    refine hv_getR hc fl_X11_9 sh_o_65 rfl dX11_undo_13 ?_
    refine hv_iconst hc dX11_undo_16 ?_
    refine hv_iaload hc sh_a_66 (Nat.le_of_ble_eq_true rfl) dX11_undo_17 (fun v2 => ?_)
    refine hv_aload_n hc dX11_undo_18 rfl (hv_m 0 rfl) ?_
    refine hv_getR hc fl_X11_9 sh_o_65 rfl dX11_undo_19 ?_
    refine hv_iconst hc dX11_undo_22 ?_
    refine hv_iaload hc sh_a_66 (Nat.le_of_ble_eq_true rfl) dX11_undo_23 (fun v3 => ?_)
    refine hv_icmp_ne (tgt := 30) hc dX11_undo_24 (by decide) ?_ ?_
    · refine hv_aload_n hc dX11_undo_30 rfl (hv_m 0 rfl) ?_
      refine hv_callVv hc (c_X11_takesBack mem) yv_X11_takesBack tw_1617 sh_o_65 rfl rfl rfl rfl (Nat.le_of_ble_eq_true rfl) (Nat.le_of_ble_eq_true rfl) (Nat.zero_le _) (Nat.zero_le _) dX11_undo_31 (fun r4 m5 => ?_)
      refine hv_aload_n hc dX11_undo_34 rfl (hv_m 0 rfl) ?_
      refine hv_getR hc fl_X11_9 sh_o_65 rfl dX11_undo_35 ?_
      refine hv_iconst hc dX11_undo_38 ?_
      refine hv_iaload hc sh_a_66 (Nat.le_of_ble_eq_true rfl) dX11_undo_39 (fun v6 => ?_)
      refine hv_aload_n hc dX11_undo_40 rfl (hv_m 0 rfl) ?_
      refine hv_getR hc fl_X11_9 sh_o_65 rfl dX11_undo_41 ?_
      refine hv_iconst hc dX11_undo_44 ?_
      refine hv_iaload hc sh_a_66 (Nat.le_of_ble_eq_true rfl) dX11_undo_45 (fun v7 => ?_)
      refine hv_isub hc dX11_undo_46 ?_
      exact hv_iret hc dX11_undo_47
    · refine hv_bipush hc dX11_undo_27 (by decide) ?_
      exact hv_iret hc dX11_undo_29
  · refine hv_bipush hc dX11_undo_9 (by decide) ?_
    exact hv_iret hc dX11_undo_11
def B_X11_anew_26 (R26 : Int → hMem → hRs) (x1 : Int) (mem : hMem) : hRs := hv_ald mem 66 216 2 (fun v1 => hv_ald mem 66 216 4 (fun v2 => hv_lt v2 v1 (hv_b (f_X11_takesBack mem) (fun r3 m4 => R26 x1 m4)) (hv_ret x1 mem)))
def L_X11_anew_26 : Nat → Int → hMem → hRs
  | 0 => fun _ _ => none
  | n + 1 => B_X11_anew_26 (L_X11_anew_26 n)
set_option maxRecDepth 100000 in
theorem gB_X11_anew_26 {X : hv_X} (hc : hv_C X cX11_anew 2 RX11 (some FieldType.int) 1 0 0) (R26 : Int → hMem → hRs) (hR26 : ∀ (x1 : Int) (mem : hMem), hv_R X 2 0 0 (hv_QX X 0 0 0) (R26 x1 mem) mem [] [(0, .ref (hv_ad X 65)), (1, .int (hv_I x1))] [] 26) (x1 : Int) (mem : hMem) : hv_R X 2 0 0 (hv_QX X 0 0 0) (B_X11_anew_26 R26 x1 mem) mem [] [(0, .ref (hv_ad X 65)), (1, .int (hv_I x1))] [] 26 := by
  unfold B_X11_anew_26
  refine hv_aload_n hc dX11_anew_26 rfl (hv_m 0 rfl) ?_
  refine hv_getR hc fl_X11_9 sh_o_65 rfl dX11_anew_27 ?_
  refine hv_iconst hc dX11_anew_30 ?_
  refine hv_iaload hc sh_a_66 (Nat.le_of_ble_eq_true rfl) dX11_anew_31 (fun v1 => ?_)
  refine hv_aload_n hc dX11_anew_32 rfl (hv_m 0 rfl) ?_
  refine hv_getR hc fl_X11_9 sh_o_65 rfl dX11_anew_33 ?_
  refine hv_iconst hc dX11_anew_36 ?_
  refine hv_iaload hc sh_a_66 (Nat.le_of_ble_eq_true rfl) dX11_anew_37 (fun v2 => ?_)
  refine hv_icmp_le (tgt := 48) hc dX11_anew_38 (by decide) ?_ ?_
  · refine hv_iload_n hc dX11_anew_48 rfl (hv_m 1 rfl) ?_
    exact hv_iret hc dX11_anew_49
  · refine hv_aload_n hc dX11_anew_41 rfl (hv_m 0 rfl) ?_
    refine hv_callVv hc (c_X11_takesBack mem) yv_X11_takesBack tw_1617 sh_o_65 rfl rfl rfl rfl (Nat.le_of_ble_eq_true rfl) (Nat.le_of_ble_eq_true rfl) (Nat.zero_le _) (Nat.zero_le _) dX11_anew_42 (fun r3 m4 => ?_)
    refine hv_goto (tgt := 26) hc dX11_anew_45 (by decide) ?_
    exact hv_pick [0, 1] rfl (hR26 x1 m4)
theorem g_X11_anew_26 {X : hv_X} (hc : hv_C X cX11_anew 2 RX11 (some FieldType.int) 1 0 0) : ∀ (n : Nat) (x1 : Int) (mem : hMem), hv_R X 2 0 0 (hv_QX X 0 0 0) (L_X11_anew_26 n x1 mem) mem [] [(0, .ref (hv_ad X 65)), (1, .int (hv_I x1))] [] 26 := by
  intro n
  induction n with
  | zero => intros; exact hv_none
  | succ n ih => exact gB_X11_anew_26 hc _ ih
def f_X11_anew (mem : hMem) : hRs := hv_ald mem 66 216 5 (fun v1 => hv_eq v1 0 (hv_ret ((-2)) mem) (hv_ald mem 66 216 2 (fun v2 => hv_ald mem 66 216 4 (fun v3 => hv_set (v2 - v3) (fun y4 => L_X11_anew_26 hv_FU y4 mem)))))
set_option maxRecDepth 100000 in
set_option maxHeartbeats 4000000 in
theorem c_X11_anew (mem : hMem) : hv_Met 1 0 0 0 yX11_anew cX11_anew 2 (some FieldType.int) (fun ad _ _ => [.ref (ad 65)]) mem (f_X11_anew mem) := by
  refine hv_start (by decide +kernel) (fun _ _ _ => Nat.le_of_ble_eq_true rfl) ?_
  intro X hc
  have hc : hv_C X cX11_anew 2 RX11 (some FieldType.int) 1 0 0 := hc
  show hv_R X 2 0 0 (hv_QX X 0 0 0) (f_X11_anew mem) mem [] [(0, .ref (hv_ad X 65))] [] 0
  unfold f_X11_anew
  refine hv_aload_n hc dX11_anew_0 rfl (hv_m 0 rfl) ?_
  refine hv_getR hc fl_X11_9 sh_o_65 rfl dX11_anew_1 ?_
  refine hv_iconst hc dX11_anew_4 ?_
  refine hv_iaload hc sh_a_66 (Nat.le_of_ble_eq_true rfl) dX11_anew_5 (fun v1 => ?_)
  refine hv_if_ne (tgt := 12) hc dX11_anew_6 (by decide) ?_ ?_
  · refine hv_aload_n hc dX11_anew_12 rfl (hv_m 0 rfl) ?_
    refine hv_getR hc fl_X11_9 sh_o_65 rfl dX11_anew_13 ?_
    refine hv_iconst hc dX11_anew_16 ?_
    refine hv_iaload hc sh_a_66 (Nat.le_of_ble_eq_true rfl) dX11_anew_17 (fun v2 => ?_)
    refine hv_aload_n hc dX11_anew_18 rfl (hv_m 0 rfl) ?_
    refine hv_getR hc fl_X11_9 sh_o_65 rfl dX11_anew_19 ?_
    refine hv_iconst hc dX11_anew_22 ?_
    refine hv_iaload hc sh_a_66 (Nat.le_of_ble_eq_true rfl) dX11_anew_23 (fun v3 => ?_)
    refine hv_isub hc dX11_anew_24 ?_
    refine hv_istore_ns (lvf := fun y4 => [(1, .int (hv_I y4)), (0, .ref (hv_ad X 65))]) hc dX11_anew_25 rfl (by decide) (fun _ => rfl) (fun y4 => ?_)
    exact hv_pick [1, 0] rfl (g_X11_anew_26 hc hv_FU y4 mem)
  · refine hv_bipush hc dX11_anew_9 (by decide) ?_
    exact hv_iret hc dX11_anew_11
