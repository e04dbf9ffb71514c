def f_X11_fault (x1 : Int) (mem : hMem) : hRs := hv_eq x1 0 (hv_ret (mem 65 4) mem) (hv_eq x1 1 (hv_ret (mem 65 5) mem) (hv_ret ((-1)) mem))
set_option maxRecDepth 100000 in
set_option maxHeartbeats 4000000 in
theorem c_X11_fault (x1 : Int) (mem : hMem) : hv_Met 0 0 0 0 yX11_fault cX11_fault 2 (some FieldType.int) (fun ad _ _ => [.ref (ad 65), .int (hv_I x1)]) mem (f_X11_fault x1 mem) := by
  refine hv_start (by decide +kernel) (fun _ _ _ => Nat.le_of_ble_eq_true rfl) ?_
  intro X hc
  have hc : hv_C X cX11_fault 2 RX11 (some FieldType.int) 0 0 0 := hc
  show hv_R X 2 0 0 (hv_QX X 0 0 0) (f_X11_fault x1 mem) mem [] [(0, .ref (hv_ad X 65)), (1, .int (hv_I x1))] [] 0
  unfold f_X11_fault
  refine hv_iload_n hc dX11_fault_0 rfl (hv_m 1 rfl) ?_
  refine hv_if_ne (tgt := 11) hc dX11_fault_1 (by decide) ?_ ?_
  · refine hv_iload_n hc dX11_fault_11 rfl (hv_m 1 rfl) ?_
    refine hv_iconst hc dX11_fault_12 ?_
    refine hv_icmp_ne (tgt := 23) hc dX11_fault_13 (by decide) ?_ ?_
    · refine hv_iconst hc dX11_fault_23 ?_
      exact hv_iret hc dX11_fault_24
    · refine hv_aload_n hc dX11_fault_16 rfl (hv_m 0 rfl) ?_
      refine hv_getI hc fl_X11_19 sh_o_65 rfl dX11_fault_17 ?_
      refine hv_goto (tgt := 24) hc dX11_fault_20 (by decide) ?_
      exact hv_iret hc dX11_fault_24
  · refine hv_aload_n hc dX11_fault_4 rfl (hv_m 0 rfl) ?_
    refine hv_getI hc fl_X11_109 sh_o_65 rfl dX11_fault_5 ?_
    refine hv_goto (tgt := 24) hc dX11_fault_8 (by decide) ?_
    exact hv_iret hc dX11_fault_24
def f_X11_count (x1 : Int) (mem : hMem) : hRs := hv_tsw x1 0 [hv_ald mem 66 216 0 (fun v1 => hv_ret v1 mem), hv_ald mem 66 216 1 (fun v2 => hv_ret v2 mem), hv_ald mem 66 216 2 (fun v3 => hv_ret v3 mem), hv_ald mem 66 216 3 (fun v4 => hv_ret v4 mem), hv_ald mem 66 216 4 (fun v5 => hv_ret v5 mem), hv_ald mem 66 216 2 (fun v6 => hv_ald mem 66 216 4 (fun v7 => hv_ret (v6 - v7) mem)), hv_ald mem 66 216 5 (fun v8 => hv_ret v8 mem), hv_ret (mem 65 3) mem] (hv_ret ((-1)) mem)
set_option maxRecDepth 100000 in
set_option maxHeartbeats 4000000 in
theorem c_X11_count (x1 : Int) (mem : hMem) : hv_Met 0 0 0 0 yX11_count cX11_count 2 (some FieldType.int) (fun ad _ _ => [.ref (ad 65), .int (hv_I x1)]) mem (f_X11_count x1 mem) := by
  refine hv_start (by decide +kernel) (fun _ _ _ => Nat.le_of_ble_eq_true rfl) ?_
  intro X hc
  have hc : hv_C X cX11_count 2 RX11 (some FieldType.int) 0 0 0 := hc
  show hv_R X 2 0 0 (hv_QX X 0 0 0) (f_X11_count x1 mem) mem [] [(0, .ref (hv_ad X 65)), (1, .int (hv_I x1))] [] 0
  unfold f_X11_count
  refine hv_iload_n hc dX11_count_0 rfl (hv_m 1 rfl) ?_
  refine hv_tswitch (tgts := [48, 55, 62, 69, 76, 83, 97, 104]) (tD := 109) hc dX11_count_1 rfl (by decide) (by decide) ⟨?_, ?_, ?_, ?_, ?_, ?_, ?_, ?_, trivial⟩ ?_
  · refine hv_aload_n hc dX11_count_48 rfl (hv_m 0 rfl) ?_
    refine hv_getR hc fl_X11_9 sh_o_65 rfl dX11_count_49 ?_
    refine hv_iconst hc dX11_count_52 ?_
    refine hv_iaload hc sh_a_66 (Nat.le_of_ble_eq_true rfl) dX11_count_53 (fun v1 => ?_)
    exact hv_iret hc dX11_count_54
  · refine hv_aload_n hc dX11_count_55 rfl (hv_m 0 rfl) ?_
    refine hv_getR hc fl_X11_9 sh_o_65 rfl dX11_count_56 ?_
    refine hv_iconst hc dX11_count_59 ?_
    refine hv_iaload hc sh_a_66 (Nat.le_of_ble_eq_true rfl) dX11_count_60 (fun v2 => ?_)
    exact hv_iret hc dX11_count_61
  · refine hv_aload_n hc dX11_count_62 rfl (hv_m 0 rfl) ?_
    refine hv_getR hc fl_X11_9 sh_o_65 rfl dX11_count_63 ?_
    refine hv_iconst hc dX11_count_66 ?_
    refine hv_iaload hc sh_a_66 (Nat.le_of_ble_eq_true rfl) dX11_count_67 (fun v3 => ?_)
    exact hv_iret hc dX11_count_68
  · refine hv_aload_n hc dX11_count_69 rfl (hv_m 0 rfl) ?_
    refine hv_getR hc fl_X11_9 sh_o_65 rfl dX11_count_70 ?_
    refine hv_iconst hc dX11_count_73 ?_
    refine hv_iaload hc sh_a_66 (Nat.le_of_ble_eq_true rfl) dX11_count_74 (fun v4 => ?_)
    exact hv_iret hc dX11_count_75
  · refine hv_aload_n hc dX11_count_76 rfl (hv_m 0 rfl) ?_
    refine hv_getR hc fl_X11_9 sh_o_65 rfl dX11_count_77 ?_
    refine hv_iconst hc dX11_count_80 ?_
    refine hv_iaload hc sh_a_66 (Nat.le_of_ble_eq_true rfl) dX11_count_81 (fun v5 => ?_)
    exact hv_iret hc dX11_count_82
  · refine hv_aload_n hc dX11_count_83 rfl (hv_m 0 rfl) ?_
    refine hv_getR hc fl_X11_9 sh_o_65 rfl dX11_count_84 ?_
    refine hv_iconst hc dX11_count_87 ?_
    refine hv_iaload hc sh_a_66 (Nat.le_of_ble_eq_true rfl) dX11_count_88 (fun v6 => ?_)
    refine hv_aload_n hc dX11_count_89 rfl (hv_m 0 rfl) ?_
    refine hv_getR hc fl_X11_9 sh_o_65 rfl dX11_count_90 ?_
    refine hv_iconst hc dX11_count_93 ?_
    refine hv_iaload hc sh_a_66 (Nat.le_of_ble_eq_true rfl) dX11_count_94 (fun v7 => ?_)
    refine hv_isub hc dX11_count_95 ?_
    exact hv_iret hc dX11_count_96
  · refine hv_aload_n hc dX11_count_97 rfl (hv_m 0 rfl) ?_
    refine hv_getR hc fl_X11_9 sh_o_65 rfl dX11_count_98 ?_
    refine hv_iconst hc dX11_count_101 ?_
    refine hv_iaload hc sh_a_66 (Nat.le_of_ble_eq_true rfl) dX11_count_102 (fun v8 => ?_)
    exact hv_iret hc dX11_count_103
  · refine hv_aload_n hc dX11_count_104 rfl (hv_m 0 rfl) ?_
    refine hv_getI hc fl_X11_75 sh_o_65 rfl dX11_count_105 ?_
    exact hv_iret hc dX11_count_108
  · refine hv_iconst hc dX11_count_109 ?_
    exact hv_iret hc dX11_count_110
def f_X11_isVersion (x1 : Int) (mem : hMem) : hRs := hv_rg x1 (hv_ald mem 66 216 2 (fun v1 => hv_rg (v1 - 1) (hv_b (f_X11_in x1 0 (v1 - 1) mem) (fun r2 m3 => hv_zr r2 m3))))
set_option maxRecDepth 100000 in
set_option maxHeartbeats 4000000 in
theorem c_X11_isVersion (x1 : Int) (mem : hMem) : hv_Met 1 0 0 0 yX11_isVersion cX11_isVersion 2 (some FieldType.boolean) (fun ad _ _ => [.ref (ad 65), .int (hv_I x1)]) mem (f_X11_isVersion x1 mem) := by
  refine hv_start (by decide +kernel) (fun _ _ _ => Nat.le_of_ble_eq_true rfl) ?_
  intro X hc
  have hc : hv_C X cX11_isVersion 2 RX11 (some FieldType.boolean) 1 0 0 := hc
  show hv_R X 2 0 0 (hv_QX X 0 0 0) (f_X11_isVersion x1 mem) mem [] [(0, .ref (hv_ad X 65)), (1, .int (hv_I x1))] [] 0
  unfold f_X11_isVersion
  refine hv_iload_n hc dX11_isVersion_0 rfl (hv_m 1 rfl) ?_
  refine hv_i2l hc dX11_isVersion_1 ?_
  refine hv_lconst (k := 0) hc dX11_isVersion_2 (by decide) ?_
  refine hv_aload_n hc dX11_isVersion_3 rfl (hv_m 0 rfl) ?_
  refine hv_getR hc fl_X11_9 sh_o_65 rfl dX11_isVersion_4 ?_
  refine hv_iconst hc dX11_isVersion_7 ?_
  refine hv_iaload hc sh_a_66 (Nat.le_of_ble_eq_true rfl) dX11_isVersion_8 (fun v1 => ?_)
  refine hv_iconst hc dX11_isVersion_9 ?_
  refine hv_isub hc dX11_isVersion_10 ?_
  refine hv_i2l hc dX11_isVersion_11 ?_
  refine hv_callSi hc (c_X11_in x1 0 (v1 - 1) mem) ys_X11_in tw_1233 rfl rfl rfl (Nat.le_of_ble_eq_true rfl) (Nat.le_of_ble_eq_true rfl) (Nat.zero_le _) (Nat.zero_le _) dX11_isVersion_12 (fun r2 m3 => ?_)
  exact hv_zret hc dX11_isVersion_15
def f_X11_isJob (x1 : Int) (mem : hMem) : hRs := hv_rg x1 (hv_ald mem 66 216 3 (fun v1 => hv_rg (v1 - 1) (hv_b (f_X11_in x1 0 (v1 - 1) mem) (fun r2 m3 => hv_zr r2 m3))))
set_option maxRecDepth 100000 in
set_option maxHeartbeats 4000000 in
theorem c_X11_isJob (x1 : Int) (mem : hMem) : hv_Met 1 0 0 0 yX11_isJob cX11_isJob 2 (some FieldType.boolean) (fun ad _ _ => [.ref (ad 65), .int (hv_I x1)]) mem (f_X11_isJob x1 mem) := by
  refine hv_start (by decide +kernel) (fun _ _ _ => Nat.le_of_ble_eq_true rfl) ?_
  intro X hc
  have hc : hv_C X cX11_isJob 2 RX11 (some FieldType.boolean) 1 0 0 := hc
  show hv_R X 2 0 0 (hv_QX X 0 0 0) (f_X11_isJob x1 mem) mem [] [(0, .ref (hv_ad X 65)), (1, .int (hv_I x1))] [] 0
  unfold f_X11_isJob
  refine hv_iload_n hc dX11_isJob_0 rfl (hv_m 1 rfl) ?_
  refine hv_i2l hc dX11_isJob_1 ?_
  refine hv_lconst (k := 0) hc dX11_isJob_2 (by decide) ?_
  refine hv_aload_n hc dX11_isJob_3 rfl (hv_m 0 rfl) ?_
  refine hv_getR hc fl_X11_9 sh_o_65 rfl dX11_isJob_4 ?_
  refine hv_iconst hc dX11_isJob_7 ?_
  refine hv_iaload hc sh_a_66 (Nat.le_of_ble_eq_true rfl) dX11_isJob_8 (fun v1 => ?_)
  refine hv_iconst hc dX11_isJob_9 ?_
  refine hv_isub hc dX11_isJob_10 ?_
  refine hv_i2l hc dX11_isJob_11 ?_
  refine hv_callSi hc (c_X11_in x1 0 (v1 - 1) mem) ys_X11_in tw_1233 rfl rfl rfl (Nat.le_of_ble_eq_true rfl) (Nat.le_of_ble_eq_true rfl) (Nat.zero_le _) (Nat.zero_le _) dX11_isJob_12 (fun r2 m3 => ?_)
  exact hv_zret hc dX11_isJob_15
def f_X11_heap (x1 x2 : Int) (mem : hMem) : hRs := hv_ast mem 69 8000 (mem 65 13) x1 (fun m1 => hv_ast m1 70 8000 (m1 65 13) x2 (fun m2 => hv_put m2 65 13 ((m2 65 13) + 1) (fun m3 => hv_ret ((m3 65 13) - 1) m3)))
set_option maxRecDepth 100000 in
set_option maxHeartbeats 4000000 in
theorem c_X11_heap (x1 x2 : Int) (mem : hMem) : hv_Met 0 0 0 0 yX11_heap cX11_heap 3 (some FieldType.int) (fun ad _ _ => [.ref (ad 65), .int (hv_I x1), .int (hv_I x2)]) mem (f_X11_heap x1 x2 mem) := by
  refine hv_start (by decide +kernel) (fun _ _ _ => Nat.le_of_ble_eq_true rfl) ?_
  intro X hc
  have hc : hv_C X cX11_heap 3 RX11 (some FieldType.int) 0 0 0 := hc
  show hv_R X 3 0 0 (hv_QX X 0 0 0) (f_X11_heap x1 x2 mem) mem [] [(0, .ref (hv_ad X 65)), (1, .int (hv_I x1)), (2, .int (hv_I x2))] [] 0
  unfold f_X11_heap
  refine hv_aload_n hc dX11_heap_0 rfl (hv_m 0 rfl) ?_
  refine hv_getR hc fl_X11_23 sh_o_65 rfl dX11_heap_1 ?_
  refine hv_aload_n hc dX11_heap_4 rfl (hv_m 0 rfl) ?_
  refine hv_getI hc fl_X11_189 sh_o_65 rfl dX11_heap_5 ?_
  refine hv_iload_n hc dX11_heap_8 rfl (hv_m 1 rfl) ?_
  refine hv_iastore hc sh_a_69 (Nat.le_of_ble_eq_true rfl) dX11_heap_9 (fun m1 => ?_)
  refine hv_aload_n hc dX11_heap_10 rfl (hv_m 0 rfl) ?_
  refine hv_getR hc fl_X11_26 sh_o_65 rfl dX11_heap_11 ?_
  refine hv_aload_n hc dX11_heap_14 rfl (hv_m 0 rfl) ?_
  refine hv_getI hc fl_X11_189 sh_o_65 rfl dX11_heap_15 ?_
  refine hv_iload_n hc dX11_heap_18 rfl (hv_m 2 rfl) ?_
  refine hv_iastore hc sh_a_70 (Nat.le_of_ble_eq_true rfl) dX11_heap_19 (fun m2 => ?_)
  refine hv_aload_n hc dX11_heap_20 rfl (hv_m 0 rfl) ?_
  refine hv_dup hc dX11_heap_21 rfl ?_
  refine hv_getI hc fl_X11_189 sh_o_65 rfl dX11_heap_22 ?_
  refine hv_iconst hc dX11_heap_25 ?_
  refine hv_iadd hc dX11_heap_26 ?_
  refine hv_putI hc fp_X11_189 sh_o_65 rfl dX11_heap_27 (fun m3 => ?_)
  refine hv_aload_n hc dX11_heap_30 rfl (hv_m 0 rfl) ?_
  refine hv_getI hc fl_X11_189 sh_o_65 rfl dX11_heap_31 ?_
  refine hv_iconst hc dX11_heap_34 ?_
  refine hv_isub hc dX11_heap_35 ?_
  exact hv_iret hc dX11_heap_36
def f_X11_isJobLess (x1 x2 : Int) (mem : hMem) : hRs := hv_ald mem 66 216 (126 + x1) (fun v1 => hv_ald mem 66 216 (126 + x2) (fun v2 => hv_lt v1 v2 (hv_zr 1 mem) (hv_ald mem 66 216 (126 + x1) (fun v3 => hv_ald mem 66 216 (126 + x2) (fun v4 => hv_eq v3 v4 (hv_lt x1 x2 (hv_zr 1 mem) (hv_zr 0 mem)) (hv_zr 0 mem))))))
set_option maxRecDepth 100000 in
set_option maxHeartbeats 4000000 in
theorem c_X11_isJobLess (x1 x2 : Int) (mem : hMem) : hv_Met 0 0 0 0 yX11_isJobLess cX11_isJobLess 3 (some FieldType.boolean) (fun ad _ _ => [.ref (ad 65), .int (hv_I x1), .int (hv_I x2)]) mem (f_X11_isJobLess x1 x2 mem) := by
  refine hv_start (by decide +kernel) (fun _ _ _ => Nat.le_of_ble_eq_true rfl) ?_
  intro X hc
  have hc : hv_C X cX11_isJobLess 3 RX11 (some FieldType.boolean) 0 0 0 := hc
  show hv_R X 3 0 0 (hv_QX X 0 0 0) (f_X11_isJobLess x1 x2 mem) mem [] [(0, .ref (hv_ad X 65)), (1, .int (hv_I x1)), (2, .int (hv_I x2))] [] 0
  unfold f_X11_isJobLess
  refine hv_aload_n hc dX11_isJobLess_0 rfl (hv_m 0 rfl) ?_
  refine hv_getR hc fl_X11_9 sh_o_65 rfl dX11_isJobLess_1 ?_
  refine hv_bipush hc dX11_isJobLess_4 (by decide) ?_
  refine hv_iload_n hc dX11_isJobLess_6 rfl (hv_m 1 rfl) ?_
  refine hv_iadd hc dX11_isJobLess_7 ?_
  refine hv_iaload hc sh_a_66 (Nat.le_of_ble_eq_true rfl) dX11_isJobLess_8 (fun v1 => ?_)
  refine hv_aload_n hc dX11_isJobLess_9 rfl (hv_m 0 rfl) ?_
  refine hv_getR hc fl_X11_9 sh_o_65 rfl dX11_isJobLess_10 ?_
  refine hv_bipush hc dX11_isJobLess_13 (by decide) ?_
  refine hv_iload_n hc dX11_isJobLess_15 rfl (hv_m 2 rfl) ?_
  refine hv_iadd hc dX11_isJobLess_16 ?_
  refine hv_iaload hc sh_a_66 (Nat.le_of_ble_eq_true rfl) dX11_isJobLess_17 (fun v2 => ?_)
  refine hv_icmp_lt (tgt := 47) hc dX11_isJobLess_18 (by decide) ?_ ?_
  · refine hv_iconst hc dX11_isJobLess_47 ?_
    refine hv_goto (tgt := 52) hc dX11_isJobLess_48 (by decide) ?_
    exact hv_zret hc dX11_isJobLess_52
  · refine hv_aload_n hc dX11_isJobLess_21 rfl (hv_m 0 rfl) ?_
    refine hv_getR hc fl_X11_9 sh_o_65 rfl dX11_isJobLess_22 ?_
    refine hv_bipush hc dX11_isJobLess_25 (by decide) ?_
    refine hv_iload_n hc dX11_isJobLess_27 rfl (hv_m 1 rfl) ?_
    refine hv_iadd hc dX11_isJobLess_28 ?_
    refine hv_iaload hc sh_a_66 (Nat.le_of_ble_eq_true rfl) dX11_isJobLess_29 (fun v3 => ?_)
    refine hv_aload_n hc dX11_isJobLess_30 rfl (hv_m 0 rfl) ?_
    refine hv_getR hc fl_X11_9 sh_o_65 rfl dX11_isJobLess_31 ?_
    refine hv_bipush hc dX11_isJobLess_34 (by decide) ?_
    refine hv_iload_n hc dX11_isJobLess_36 rfl (hv_m 2 rfl) ?_
    refine hv_iadd hc dX11_isJobLess_37 ?_
    refine hv_iaload hc sh_a_66 (Nat.le_of_ble_eq_true rfl) dX11_isJobLess_38 (fun v4 => ?_)
    refine hv_icmp_ne (tgt := 51) hc dX11_isJobLess_39 (by decide) ?_ ?_
    · refine hv_iconst hc dX11_isJobLess_51 ?_
      exact hv_zret hc dX11_isJobLess_52
    · refine hv_iload_n hc dX11_isJobLess_42 rfl (hv_m 1 rfl) ?_
      refine hv_iload_n hc dX11_isJobLess_43 rfl (hv_m 2 rfl) ?_
      refine hv_icmp_ge (tgt := 51) hc dX11_isJobLess_44 (by decide) ?_ ?_
      · refine hv_iconst hc dX11_isJobLess_51 ?_
        exact hv_zret hc dX11_isJobLess_52
      · refine hv_iconst hc dX11_isJobLess_47 ?_
        refine hv_goto (tgt := 52) hc dX11_isJobLess_48 (by decide) ?_
        exact hv_zret hc dX11_isJobLess_52
def f_X11_isLess (x1 x2 : Int) (mem : hMem) : hRs := hv_ald mem 69 8000 x1 (fun v1 => hv_ald mem 69 8000 x2 (fun v2 => hv_b (f_X11_isJobLess v1 v2 mem) (fun r3 m4 => hv_zr r3 m4)))
set_option maxRecDepth 100000 in
set_option maxHeartbeats 4000000 in
theorem c_X11_isLess (x1 x2 : Int) (mem : hMem) : hv_Met 1 0 0 0 yX11_isLess cX11_isLess 3 (some FieldType.boolean) (fun ad _ _ => [.ref (ad 65), .int (hv_I x1), .int (hv_I x2)]) mem (f_X11_isLess x1 x2 mem) := by
  refine hv_start (by decide +kernel) (fun _ _ _ => Nat.le_of_ble_eq_true rfl) ?_
  intro X hc
  have hc : hv_C X cX11_isLess 3 RX11 (some FieldType.boolean) 1 0 0 := hc
  show hv_R X 3 0 0 (hv_QX X 0 0 0) (f_X11_isLess x1 x2 mem) mem [] [(0, .ref (hv_ad X 65)), (1, .int (hv_I x1)), (2, .int (hv_I x2))] [] 0
  unfold f_X11_isLess
  refine hv_aload_n hc dX11_isLess_0 rfl (hv_m 0 rfl) ?_
  refine hv_aload_n hc dX11_isLess_1 rfl (hv_m 0 rfl) ?_
  refine hv_getR hc fl_X11_23 sh_o_65 rfl dX11_isLess_2 ?_
  refine hv_iload_n hc dX11_isLess_5 rfl (hv_m 1 rfl) ?_
  refine hv_iaload hc sh_a_69 (Nat.le_of_ble_eq_true rfl) dX11_isLess_6 (fun v1 => ?_)
  refine hv_aload_n hc dX11_isLess_7 rfl (hv_m 0 rfl) ?_
  refine hv_getR hc fl_X11_23 sh_o_65 rfl dX11_isLess_8 ?_
  refine hv_iload_n hc dX11_isLess_11 rfl (hv_m 2 rfl) ?_
  refine hv_iaload hc sh_a_69 (Nat.le_of_ble_eq_true rfl) dX11_isLess_12 (fun v2 => ?_)
  refine hv_callVi hc (c_X11_isJobLess v1 v2 mem) yv_X11_isJobLess tw_1332 sh_o_65 rfl rfl rfl rfl (Nat.le_of_ble_eq_true rfl) (Nat.le_of_ble_eq_true rfl) (Nat.zero_le _) (Nat.zero_le _) dX11_isLess_13 (fun r3 m4 => ?_)
  exact hv_zret hc dX11_isLess_16
def f_X11_ahead (x1 x2 : Int) (mem : hMem) : hRs := hv_ast mem 75 40000 (mem 65 21) x1 (fun m1 => hv_ast m1 76 40000 (m1 65 21) x2 (fun m2 => hv_put m2 65 21 ((m2 65 21) + 1) (fun m3 => hv_ret ((m3 65 21) - 1) m3)))
set_option maxRecDepth 100000 in
set_option maxHeartbeats 4000000 in
theorem c_X11_ahead (x1 x2 : Int) (mem : hMem) : hv_Met 0 0 0 0 yX11_ahead cX11_ahead 3 (some FieldType.int) (fun ad _ _ => [.ref (ad 65), .int (hv_I x1), .int (hv_I x2)]) mem (f_X11_ahead x1 x2 mem) := by
  refine hv_start (by decide +kernel) (fun _ _ _ => Nat.le_of_ble_eq_true rfl) ?_
  intro X hc
  have hc : hv_C X cX11_ahead 3 RX11 (some FieldType.int) 0 0 0 := hc
  show hv_R X 3 0 0 (hv_QX X 0 0 0) (f_X11_ahead x1 x2 mem) mem [] [(0, .ref (hv_ad X 65)), (1, .int (hv_I x1)), (2, .int (hv_I x2))] [] 0
  unfold f_X11_ahead
  refine hv_aload_n hc dX11_ahead_0 rfl (hv_m 0 rfl) ?_
  refine hv_getR hc fl_X11_42 sh_o_65 rfl dX11_ahead_1 ?_
  refine hv_aload_n hc dX11_ahead_4 rfl (hv_m 0 rfl) ?_
  refine hv_getI hc fl_X11_186 sh_o_65 rfl dX11_ahead_5 ?_
  refine hv_iload_n hc dX11_ahead_8 rfl (hv_m 1 rfl) ?_
  refine hv_iastore hc sh_a_75 (Nat.le_of_ble_eq_true rfl) dX11_ahead_9 (fun m1 => ?_)
  refine hv_aload_n hc dX11_ahead_10 rfl (hv_m 0 rfl) ?_
  refine hv_getR hc fl_X11_45 sh_o_65 rfl dX11_ahead_11 ?_
  refine hv_aload_n hc dX11_ahead_14 rfl (hv_m 0 rfl) ?_
  refine hv_getI hc fl_X11_186 sh_o_65 rfl dX11_ahead_15 ?_
  refine hv_iload_n hc dX11_ahead_18 rfl (hv_m 2 rfl) ?_
  refine hv_iastore hc sh_a_76 (Nat.le_of_ble_eq_true rfl) dX11_ahead_19 (fun m2 => ?_)
  refine hv_aload_n hc dX11_ahead_20 rfl (hv_m 0 rfl) ?_
  refine hv_dup hc dX11_ahead_21 rfl ?_
  refine hv_getI hc fl_X11_186 sh_o_65 rfl dX11_ahead_22 ?_
  refine hv_iconst hc dX11_ahead_25 ?_
  refine hv_iadd hc dX11_ahead_26 ?_
  refine hv_putI hc fp_X11_186 sh_o_65 rfl dX11_ahead_27 (fun m3 => ?_)
  refine hv_aload_n hc dX11_ahead_30 rfl (hv_m 0 rfl) ?_
  refine hv_getI hc fl_X11_186 sh_o_65 rfl dX11_ahead_31 ?_
  refine hv_iconst hc dX11_ahead_34 ?_
  refine hv_isub hc dX11_ahead_35 ?_
  exact hv_iret hc dX11_ahead_36
def f_X11_tree (x1 x2 x3 x4 : Int) (mem : hMem) : hRs := hv_ast mem 71 8000 (mem 65 18) x1 (fun m1 => hv_ast m1 72 8000 (m1 65 18) x2 (fun m2 => hv_ast m2 73 8000 (m2 65 18) x3 (fun m3 => hv_ast m3 74 8000 (m3 65 18) x4 (fun m4 => hv_put m4 65 18 ((m4 65 18) + 1) (fun m5 => hv_ret ((m5 65 18) - 1) m5)))))
set_option maxRecDepth 100000 in
set_option maxHeartbeats 4000000 in
theorem c_X11_tree (x1 x2 x3 x4 : Int) (mem : hMem) : hv_Met 0 0 0 0 yX11_tree cX11_tree 5 (some FieldType.int) (fun ad _ _ => [.ref (ad 65), .int (hv_I x1), .int (hv_I x2), .int (hv_I x3), .int (hv_I x4)]) mem (f_X11_tree x1 x2 x3 x4 mem) := by
  refine hv_start (by decide +kernel) (fun _ _ _ => Nat.le_of_ble_eq_true rfl) ?_
  intro X hc
  have hc : hv_C X cX11_tree 5 RX11 (some FieldType.int) 0 0 0 := hc
  show hv_R X 5 0 0 (hv_QX X 0 0 0) (f_X11_tree x1 x2 x3 x4 mem) mem [] [(0, .ref (hv_ad X 65)), (1, .int (hv_I x1)), (2, .int (hv_I x2)), (3, .int (hv_I x3)), (4, .int (hv_I x4))] [] 0
  unfold f_X11_tree
  refine hv_aload_n hc dX11_tree_0 rfl (hv_m 0 rfl) ?_
  refine hv_getR hc fl_X11_29 sh_o_65 rfl dX11_tree_1 ?_
  refine hv_aload_n hc dX11_tree_4 rfl (hv_m 0 rfl) ?_
  refine hv_getI hc fl_X11_192 sh_o_65 rfl dX11_tree_5 ?_
  refine hv_iload_n hc dX11_tree_8 rfl (hv_m 1 rfl) ?_
  refine hv_iastore hc sh_a_71 (Nat.le_of_ble_eq_true rfl) dX11_tree_9 (fun m1 => ?_)
  refine hv_aload_n hc dX11_tree_10 rfl (hv_m 0 rfl) ?_
  refine hv_getR hc fl_X11_32 sh_o_65 rfl dX11_tree_11 ?_
  refine hv_aload_n hc dX11_tree_14 rfl (hv_m 0 rfl) ?_
  refine hv_getI hc fl_X11_192 sh_o_65 rfl dX11_tree_15 ?_
  refine hv_iload_n hc dX11_tree_18 rfl (hv_m 2 rfl) ?_
  refine hv_iastore hc sh_a_72 (Nat.le_of_ble_eq_true rfl) dX11_tree_19 (fun m2 => ?_)
  refine hv_aload_n hc dX11_tree_20 rfl (hv_m 0 rfl) ?_
  refine hv_getR hc fl_X11_35 sh_o_65 rfl dX11_tree_21 ?_
  refine hv_aload_n hc dX11_tree_24 rfl (hv_m 0 rfl) ?_
  refine hv_getI hc fl_X11_192 sh_o_65 rfl dX11_tree_25 ?_
  refine hv_iload_n hc dX11_tree_28 rfl (hv_m 3 rfl) ?_
  refine hv_iastore hc sh_a_73 (Nat.le_of_ble_eq_true rfl) dX11_tree_29 (fun m3 => ?_)
  refine hv_aload_n hc dX11_tree_30 rfl (hv_m 0 rfl) ?_
  refine hv_getR hc fl_X11_38 sh_o_65 rfl dX11_tree_31 ?_
  refine hv_aload_n hc dX11_tree_34 rfl (hv_m 0 rfl) ?_
  refine hv_getI hc fl_X11_192 sh_o_65 rfl dX11_tree_35 ?_
  refine hv_iload hc dX11_tree_38 (hv_m 4 rfl) ?_
  refine hv_iastore hc sh_a_74 (Nat.le_of_ble_eq_true rfl) dX11_tree_40 (fun m4 => ?_)
  refine hv_aload_n hc dX11_tree_41 rfl (hv_m 0 rfl) ?_
  refine hv_dup hc dX11_tree_42 rfl ?_
  refine hv_getI hc fl_X11_192 sh_o_65 rfl dX11_tree_43 ?_
  refine hv_iconst hc dX11_tree_46 ?_
  refine hv_iadd hc dX11_tree_47 ?_
  refine hv_putI hc fp_X11_192 sh_o_65 rfl dX11_tree_48 (fun m5 => ?_)
  refine hv_aload_n hc dX11_tree_51 rfl (hv_m 0 rfl) ?_
  refine hv_getI hc fl_X11_192 sh_o_65 rfl dX11_tree_52 ?_
  refine hv_iconst hc dX11_tree_55 ?_
  refine hv_isub hc dX11_tree_56 ?_
  exact hv_iret hc dX11_tree_57
def J_X11_link_71 (x4 s1 s2 s3 s5 : Int) (mem : hMem) : hRs := hv_ald mem 74 8000 x4 (fun v1 => hv_b (f_X11_ahead s5 v1 mem) (fun r2 m3 => hv_b (f_X11_tree s1 s2 s3 r2 m3) (fun r4 m5 => hv_ret r4 m5)))
set_option maxRecDepth 100000 in
theorem g_X11_link_71 {X : hv_X} (hc : hv_C X cX11_link 5 RX11 (some FieldType.int) 2 0 0) (x4 s1 s2 s3 s5 : Int) (mem : hMem) : hv_R X 5 0 0 (hv_QX X 0 0 0) (J_X11_link_71 x4 s1 s2 s3 s5 mem) mem [] [(0, .ref (hv_ad X 65)), (4, .int (hv_I x4))] [.int (hv_I s5), .ref (hv_ad X 65), .int (hv_I s3), .int (hv_I s2), .int (hv_I s1), .ref (hv_ad X 65)] 71 := by
  unfold J_X11_link_71
  refine hv_aload_n hc dX11_link_71 rfl (hv_m 0 rfl) ?_
  refine hv_getR hc fl_X11_38 sh_o_65 rfl dX11_link_72 ?_
  refine hv_iload hc dX11_link_75 (hv_m 1 rfl) ?_
  refine hv_iaload hc sh_a_74 (Nat.le_of_ble_eq_true rfl) dX11_link_77 (fun v1 => ?_)
  refine hv_callVi hc (c_X11_ahead s5 v1 mem) yv_X11_ahead tw_1344 sh_o_65 rfl rfl rfl rfl (Nat.le_of_ble_eq_true rfl) (Nat.le_of_ble_eq_true rfl) (Nat.zero_le _) (Nat.zero_le _) dX11_link_78 (fun r2 m3 => ?_)
  refine hv_callVi hc (c_X11_tree s1 s2 s3 r2 m3) yv_X11_tree tw_1348 sh_o_65 rfl rfl rfl rfl (Nat.le_of_ble_eq_true rfl) (Nat.le_of_ble_eq_true rfl) (Nat.zero_le _) (Nat.zero_le _) dX11_link_81 (fun r4 m5 => ?_)
  exact hv_iret hc dX11_link_84
def J_X11_link_36 (x1 x2 x3 s0 : Int) (mem : hMem) : hRs := hv_ald mem 71 8000 x1 (fun v1 => hv_ald mem 72 8000 s0 (fun v2 => hv_ald mem 73 8000 s0 (fun v3 => hv_eq x3 0 (J_X11_link_71 s0 (v1 + 1) v2 v3 x2 mem) (J_X11_link_71 s0 (v1 + 1) v2 v3 x1 mem))))
set_option maxRecDepth 100000 in
theorem g_X11_link_36 {X : hv_X} (hc : hv_C X cX11_link 5 RX11 (some FieldType.int) 2 0 0) (x1 x2 x3 s0 : Int) (mem : hMem) : hv_R X 5 0 0 (hv_QX X 0 0 0) (J_X11_link_36 x1 x2 x3 s0 mem) mem [] [(0, .ref (hv_ad X 65)), (1, .int (hv_I x1)), (2, .int (hv_I x2)), (3, .int (hv_I x3))] [.int (hv_I s0)] 36 := by
  unfold J_X11_link_36
  refine hv_istore (lv' := [(4, .int (hv_I s0)), (0, .ref (hv_ad X 65)), (1, .int (hv_I x1)), (2, .int (hv_I x2)), (3, .int (hv_I x3))]) hc dX11_link_36 (by decide) rfl ?_
  refine hv_aload_n hc dX11_link_38 rfl (hv_m 1 rfl) ?_
  refine hv_aload_n hc dX11_link_39 rfl (hv_m 1 rfl) ?_
  refine hv_getR hc fl_X11_29 sh_o_65 rfl dX11_link_40 ?_
  refine hv_iload_n hc dX11_link_43 rfl (hv_m 2 rfl) ?_
  refine hv_iaload hc sh_a_71 (Nat.le_of_ble_eq_true rfl) dX11_link_44 (fun v1 => ?_)
  refine hv_iconst hc dX11_link_45 ?_
  refine hv_iadd hc dX11_link_46 ?_
  refine hv_aload_n hc dX11_link_47 rfl (hv_m 1 rfl) ?_
  refine hv_getR hc fl_X11_32 sh_o_65 rfl dX11_link_48 ?_
  refine hv_iload hc dX11_link_51 (hv_m 0 rfl) ?_
  refine hv_iaload hc sh_a_72 (Nat.le_of_ble_eq_true rfl) dX11_link_53 (fun v2 => ?_)
  refine hv_aload_n hc dX11_link_54 rfl (hv_m 1 rfl) ?_
  refine hv_getR hc fl_X11_35 sh_o_65 rfl dX11_link_55 ?_
  refine hv_iload hc dX11_link_58 (hv_m 0 rfl) ?_
  refine hv_iaload hc sh_a_73 (Nat.le_of_ble_eq_true rfl) dX11_link_60 (fun v3 => ?_)
  refine hv_aload_n hc dX11_link_61 rfl (hv_m 1 rfl) ?_
  refine hv_iload_n hc dX11_link_62 rfl (hv_m 4 rfl) ?_
  refine hv_if_eq (tgt := 70) hc dX11_link_63 (by decide) ?_ ?_
  · refine hv_iload_n hc dX11_link_70 rfl (hv_m 3 rfl) ?_
    exact hv_pick [1, 0] rfl (g_X11_link_71 hc s0 (v1 + 1) v2 v3 x2 mem)
  · refine hv_iload_n hc dX11_link_66 rfl (hv_m 2 rfl) ?_
    refine hv_goto (tgt := 71) hc dX11_link_67 (by decide) ?_
    exact hv_pick [1, 0] rfl (g_X11_link_71 hc s0 (v1 + 1) v2 v3 x1 mem)
def f_X11_link (x1 x2 : Int) (mem : hMem) : hRs := hv_put mem 65 22 ((mem 65 22) + 1) (fun m1 => hv_ald m1 72 8000 x2 (fun v2 => hv_ald m1 72 8000 x1 (fun v3 => hv_b (f_X11_isLess v2 v3 m1) (fun r4 m5 => hv_eq r4 0 (J_X11_link_36 x1 x2 r4 x1 m5) (J_X11_link_36 x1 x2 r4 x2 m5)))))
set_option maxRecDepth 100000 in
set_option maxHeartbeats 4000000 in
theorem c_X11_link (x1 x2 : Int) (mem : hMem) : hv_Met 2 0 0 0 yX11_link cX11_link 5 (some FieldType.int) (fun ad _ _ => [.ref (ad 65), .int (hv_I x1), .int (hv_I x2)]) mem (f_X11_link x1 x2 mem) := by
  refine hv_start (by decide +kernel) (fun _ _ _ => Nat.le_of_ble_eq_true rfl) ?_
  intro X hc
  have hc : hv_C X cX11_link 5 RX11 (some FieldType.int) 2 0 0 := hc
  show hv_R X 5 0 0 (hv_QX X 0 0 0) (f_X11_link x1 x2 mem) mem [] [(0, .ref (hv_ad X 65)), (1, .int (hv_I x1)), (2, .int (hv_I x2))] [] 0
  unfold f_X11_link
  refine hv_aload_n hc dX11_link_0 rfl (hv_m 0 rfl) ?_
  refine hv_dup hc dX11_link_1 rfl ?_
  refine hv_getI hc fl_X11_198 sh_o_65 rfl dX11_link_2 ?_
  refine hv_iconst hc dX11_link_5 ?_
  refine hv_iadd hc dX11_link_6 ?_
  refine hv_putI hc fp_X11_198 sh_o_65 rfl dX11_link_7 (fun m1 => ?_)
  refine hv_aload_n hc dX11_link_10 rfl (hv_m 0 rfl) ?_
  refine hv_aload_n hc dX11_link_11 rfl (hv_m 0 rfl) ?_
  refine hv_getR hc fl_X11_32 sh_o_65 rfl dX11_link_12 ?_
  refine hv_iload_n hc dX11_link_15 rfl (hv_m 2 rfl) ?_
  refine hv_iaload hc sh_a_72 (Nat.le_of_ble_eq_true rfl) dX11_link_16 (fun v2 => ?_)
  refine hv_aload_n hc dX11_link_17 rfl (hv_m 0 rfl) ?_
  refine hv_getR hc fl_X11_32 sh_o_65 rfl dX11_link_18 ?_
  refine hv_iload_n hc dX11_link_21 rfl (hv_m 1 rfl) ?_
  refine hv_iaload hc sh_a_72 (Nat.le_of_ble_eq_true rfl) dX11_link_22 (fun v3 => ?_)
  refine hv_callVi hc (c_X11_isLess v2 v3 m1) yv_X11_isLess tw_1328 sh_o_65 rfl rfl rfl rfl (Nat.le_of_ble_eq_true rfl) (Nat.le_of_ble_eq_true rfl) (Nat.zero_le _) (Nat.zero_le _) dX11_link_23 (fun r4 m5 => ?_)
  refine hv_istore_n (lv' := [(3, .int (hv_I r4)), (0, .ref (hv_ad X 65)), (1, .int (hv_I x1)), (2, .int (hv_I x2))]) hc dX11_link_26 rfl (by decide) rfl ?_
  refine hv_iload_n hc dX11_link_27 rfl (hv_m 0 rfl) ?_
  refine hv_if_eq (tgt := 35) hc dX11_link_28 (by decide) ?_ ?_
  · refine hv_iload_n hc dX11_link_35 rfl (hv_m 2 rfl) ?_
    exact hv_pick [1, 2, 3, 0] rfl (g_X11_link_36 hc x1 x2 r4 x1 m5)
  · refine hv_iload_n hc dX11_link_31 rfl (hv_m 3 rfl) ?_
    refine hv_goto (tgt := 36) hc dX11_link_32 (by decide) ?_
    exact hv_pick [1, 2, 3, 0] rfl (g_X11_link_36 hc x1 x2 r4 x2 m5)
def J_X11_carries_56 (x3 x4 : Int) (mem : hMem) : hRs := hv_b (f_X11_ahead x3 x4 mem) (fun r1 m2 => hv_ret r1 m2)
set_option maxRecDepth 100000 in
theorem g_X11_carries_56 {X : hv_X} (hc : hv_C X cX11_carries 5 RX11 (some FieldType.int) 3 0 0) (x3 x4 : Int) (mem : hMem) : hv_R X 5 0 0 (hv_QX X 0 0 0) (J_X11_carries_56 x3 x4 mem) mem [] [(0, .ref (hv_ad X 65)), (3, .int (hv_I x3)), (4, .int (hv_I x4))] [] 56 := by
  unfold J_X11_carries_56
  refine hv_aload_n hc dX11_carries_56 rfl (hv_m 0 rfl) ?_
  refine hv_iload_n hc dX11_carries_57 rfl (hv_m 1 rfl) ?_
  refine hv_iload hc dX11_carries_58 (hv_m 2 rfl) ?_
  refine hv_callVi hc (c_X11_ahead x3 x4 mem) yv_X11_ahead tw_1344 sh_o_65 rfl rfl rfl rfl (Nat.le_of_ble_eq_true rfl) (Nat.le_of_ble_eq_true rfl) (Nat.zero_le _) (Nat.zero_le _) dX11_carries_60 (fun r1 m2 => ?_)
  exact hv_iret hc dX11_carries_63
def B_X11_carries_5 (R5 : Int → Int → hMem → hRs) (x3 x4 : Int) (mem : hMem) : hRs := hv_lt x4 0 (J_X11_carries_56 x3 x4 mem) (hv_ald mem 71 8000 x3 (fun v1 => hv_ald mem 75 40000 x4 (fun v2 => hv_ald mem 71 8000 v2 (fun v3 => hv_lt v1 v3 (J_X11_carries_56 x3 x4 mem) (hv_ald mem 75 40000 x4 (fun v4 => hv_b (f_X11_link x3 v4 mem) (fun r5 m6 => hv_ald m6 76 40000 x4 (fun v7 => R5 r5 v7 m6))))))))
def L_X11_carries_5 : Nat → Int → Int → hMem → hRs
  | 0 => fun _ _ _ => none
  | n + 1 => B_X11_carries_5 (L_X11_carries_5 n)
set_option maxRecDepth 100000 in
theorem gB_X11_carries_5 {X : hv_X} (hc : hv_C X cX11_carries 5 RX11 (some FieldType.int) 3 0 0) (R5 : Int → Int → hMem → hRs) (hR5 : ∀ (x3 x4 : Int) (mem : hMem), hv_R X 5 0 0 (hv_QX X 0 0 0) (R5 x3 x4 mem) mem [] [(0, .ref (hv_ad X 65)), (3, .int (hv_I x3)), (4, .int (hv_I x4))] [] 5) (x3 x4 : Int) (mem : hMem) : hv_R X 5 0 0 (hv_QX X 0 0 0) (B_X11_carries_5 R5 x3 x4 mem) mem [] [(0, .ref (hv_ad X 65)), (3, .int (hv_I x3)), (4, .int (hv_I x4))] [] 5 := by
  unfold B_X11_carries_5
  refine hv_iload hc dX11_carries_5 (hv_m 2 rfl) ?_
  refine hv_if_lt (tgt := 56) hc dX11_carries_7 (by decide) ?_ ?_
  · exact hv_pick [0, 1, 2] rfl (g_X11_carries_56 hc x3 x4 mem)
  · refine hv_aload_n hc dX11_carries_10 rfl (hv_m 0 rfl) ?_
    refine hv_getR hc fl_X11_29 sh_o_65 rfl dX11_carries_11 ?_
    refine hv_iload_n hc dX11_carries_14 rfl (hv_m 1 rfl) ?_
    refine hv_iaload hc sh_a_71 (Nat.le_of_ble_eq_true rfl) dX11_carries_15 (fun v1 => ?_)
    refine hv_aload_n hc dX11_carries_16 rfl (hv_m 0 rfl) ?_
    refine hv_getR hc fl_X11_29 sh_o_65 rfl dX11_carries_17 ?_
    refine hv_aload_n hc dX11_carries_20 rfl (hv_m 0 rfl) ?_
    refine hv_getR hc fl_X11_42 sh_o_65 rfl dX11_carries_21 ?_
    refine hv_iload hc dX11_carries_24 (hv_m 2 rfl) ?_
    refine hv_iaload hc sh_a_75 (Nat.le_of_ble_eq_true rfl) dX11_carries_26 (fun v2 => ?_)
    refine hv_iaload hc sh_a_71 (Nat.le_of_ble_eq_true rfl) dX11_carries_27 (fun v3 => ?_)
    refine hv_icmp_lt (tgt := 56) hc dX11_carries_28 (by decide) ?_ ?_
    · exact hv_pick [0, 1, 2] rfl (g_X11_carries_56 hc x3 x4 mem)
    · refine hv_aload_n hc dX11_carries_31 rfl (hv_m 0 rfl) ?_
      refine hv_iload_n hc dX11_carries_32 rfl (hv_m 1 rfl) ?_
      refine hv_aload_n hc dX11_carries_33 rfl (hv_m 0 rfl) ?_
      refine hv_getR hc fl_X11_42 sh_o_65 rfl dX11_carries_34 ?_
      refine hv_iload hc dX11_carries_37 (hv_m 2 rfl) ?_
      refine hv_iaload hc sh_a_75 (Nat.le_of_ble_eq_true rfl) dX11_carries_39 (fun v4 => ?_)
      refine hv_callVi hc (c_X11_link x3 v4 mem) yv_X11_link tw_1340 sh_o_65 rfl rfl rfl rfl (Nat.le_of_ble_eq_true rfl) (Nat.le_of_ble_eq_true rfl) (Nat.zero_le _) (Nat.zero_le _) dX11_carries_40 (fun r5 m6 => ?_)
      refine hv_istore_n (lv' := [(3, .int (hv_I r5)), (0, .ref (hv_ad X 65)), (4, .int (hv_I x4))]) hc dX11_carries_43 rfl (by decide) rfl ?_
      refine hv_aload_n hc dX11_carries_44 rfl (hv_m 1 rfl) ?_
      refine hv_getR hc fl_X11_45 sh_o_65 rfl dX11_carries_45 ?_
      refine hv_iload hc dX11_carries_48 (hv_m 2 rfl) ?_
      refine hv_iaload hc sh_a_76 (Nat.le_of_ble_eq_true rfl) dX11_carries_50 (fun v7 => ?_)
      refine hv_istore (lv' := [(4, .int (hv_I v7)), (3, .int (hv_I r5)), (0, .ref (hv_ad X 65))]) hc dX11_carries_51 (by decide) rfl ?_
      refine hv_goto (tgt := 5) hc dX11_carries_53 (by decide) ?_
      exact hv_pick [2, 1, 0] rfl (hR5 r5 v7 m6)
theorem g_X11_carries_5 {X : hv_X} (hc : hv_C X cX11_carries 5 RX11 (some FieldType.int) 3 0 0) : ∀ (n : Nat) (x3 x4 : Int) (mem : hMem), hv_R X 5 0 0 (hv_QX X 0 0 0) (L_X11_carries_5 n x3 x4 mem) mem [] [(0, .ref (hv_ad X 65)), (3, .int (hv_I x3)), (4, .int (hv_I x4))] [] 5 := by
  intro n
  induction n with
  | zero => intros; exact hv_none
  | succ n ih => exact gB_X11_carries_5 hc _ ih
def f_X11_carries (x1 x2 : Int) (mem : hMem) : hRs := L_X11_carries_5 hv_FU x1 x2 mem
set_option maxRecDepth 100000 in
set_option maxHeartbeats 4000000 in
theorem c_X11_carries (x1 x2 : Int) (mem : hMem) : hv_Met 3 0 0 0 yX11_carries cX11_carries 5 (some FieldType.int) (fun ad _ _ => [.ref (ad 65), .int (hv_I x1), .int (hv_I x2)]) mem (f_X11_carries x1 x2 mem) := by
  refine hv_start (by decide +kernel) (fun _ _ _ => Nat.le_of_ble_eq_true rfl) ?_
  intro X hc
  have hc : hv_C X cX11_carries 5 RX11 (some FieldType.int) 3 0 0 := hc
  show hv_R X 5 0 0 (hv_QX X 0 0 0) (f_X11_carries x1 x2 mem) mem [] [(0, .ref (hv_ad X 65)), (1, .int (hv_I x1)), (2, .int (hv_I x2))] [] 0
  unfold f_X11_carries
  refine hv_iload_n hc dX11_carries_0 rfl (hv_m 1 rfl) ?_
  refine hv_istore_n (lv' := [(3, .int (hv_I x1)), (0, .ref (hv_ad X 65)), (1, .int (hv_I x1)), (2, .int (hv_I x2))]) hc dX11_carries_1 rfl (by decide) rfl ?_
  refine hv_iload_n hc dX11_carries_2 rfl (hv_m 3 rfl) ?_
  refine hv_istore (lv' := [(4, .int (hv_I x2)), (3, .int (hv_I x1)), (0, .ref (hv_ad X 65)), (1, .int (hv_I x1)), (2, .int (hv_I x2))]) hc dX11_carries_3 (by decide) rfl ?_
  exact hv_pick [2, 1, 0] rfl (g_X11_carries_5 hc hv_FU x1 x2 mem)
def J_X11_sets_165 (x1 x2 x3 : Int) (mem : hMem) : hRs := hv_b (f_X11_tree 0 x2 ((-1)) ((-1)) mem) (fun r1 m2 => hv_eq x1 0 (hv_b (f_X11_ahead r1 x3 m2) (fun r5 m6 => hv_ret r5 m6)) (hv_b (f_X11_carries r1 x3 m2) (fun r3 m4 => hv_ret r3 m4)))
set_option maxRecDepth 100000 in
theorem g_X11_sets_165 {X : hv_X} (hc : hv_C X cX11_sets 9 RX11 (some FieldType.int) 4 0 0) (x1 x2 x3 : Int) (mem : hMem) : hv_R X 9 0 0 (hv_QX X 0 0 0) (J_X11_sets_165 x1 x2 x3 mem) mem [] [(0, .ref (hv_ad X 65)), (1, .int (hv_I x1)), (2, .int (hv_I x2)), (3, .int (hv_I x3))] [] 165 := by
  unfold J_X11_sets_165
  refine hv_aload_n hc dX11_sets_165 rfl (hv_m 0 rfl) ?_
  refine hv_iconst hc dX11_sets_166 ?_
  refine hv_iload_n hc dX11_sets_167 rfl (hv_m 2 rfl) ?_
  refine hv_iconst hc dX11_sets_168 ?_
  refine hv_iconst hc dX11_sets_169 ?_
  refine hv_callVi hc (c_X11_tree 0 x2 ((-1)) ((-1)) mem) yv_X11_tree tw_1348 sh_o_65 rfl rfl rfl rfl (Nat.le_of_ble_eq_true rfl) (Nat.le_of_ble_eq_true rfl) (Nat.zero_le _) (Nat.zero_le _) dX11_sets_170 (fun r1 m2 => ?_)
  refine hv_istore (lv' := [(5, .int (hv_I r1)), (0, .ref (hv_ad X 65)), (1, .int (hv_I x1)), (2, .int (hv_I x2)), (3, .int (hv_I x3))]) hc dX11_sets_173 (by decide) rfl ?_
  refine hv_iload_n hc dX11_sets_175 rfl (hv_m 2 rfl) ?_
  refine hv_if_ne (tgt := 189) hc dX11_sets_176 (by decide) ?_ ?_
  · refine hv_aload_n hc dX11_sets_189 rfl (hv_m 1 rfl) ?_
    refine hv_iload hc dX11_sets_190 (hv_m 0 rfl) ?_
    refine hv_iload_n hc dX11_sets_192 rfl (hv_m 4 rfl) ?_
    refine hv_callVi hc (c_X11_carries r1 x3 m2) yv_X11_carries tw_1352 sh_o_65 rfl rfl rfl rfl (Nat.le_of_ble_eq_true rfl) (Nat.le_of_ble_eq_true rfl) (Nat.zero_le _) (Nat.zero_le _) dX11_sets_193 (fun r3 m4 => ?_)
    exact hv_iret hc dX11_sets_196
  · refine hv_aload_n hc dX11_sets_179 rfl (hv_m 1 rfl) ?_
    refine hv_iload hc dX11_sets_180 (hv_m 0 rfl) ?_
    refine hv_iload_n hc dX11_sets_182 rfl (hv_m 4 rfl) ?_
    refine hv_callVi hc (c_X11_ahead r1 x3 m2) yv_X11_ahead tw_1344 sh_o_65 rfl rfl rfl rfl (Nat.le_of_ble_eq_true rfl) (Nat.le_of_ble_eq_true rfl) (Nat.zero_le _) (Nat.zero_le _) dX11_sets_183 (fun r5 m6 => ?_)
    refine hv_goto (tgt := 196) hc dX11_sets_186 (by decide) ?_
    exact hv_iret hc dX11_sets_196
def J_X11_sets_118 (x4 x5 x7 s0 : Int) (mem : hMem) : hRs := hv_ald mem 71 8000 x5 (fun v1 => hv_ald mem 73 8000 x5 (fun v2 => hv_b (f_X11_ahead s0 v2 mem) (fun r3 m4 => hv_ald m4 74 8000 x5 (fun v5 => hv_b (f_X11_tree v1 x7 r3 v5 m4) (fun r6 m7 => hv_ald m7 76 40000 x4 (fun v8 => hv_b (f_X11_ahead r6 v8 m7) (fun r9 m10 => hv_ret r9 m10)))))))
set_option maxRecDepth 100000 in
theorem g_X11_sets_118 {X : hv_X} (hc : hv_C X cX11_sets 9 RX11 (some FieldType.int) 4 0 0) (x4 x5 x7 s0 : Int) (mem : hMem) : hv_R X 9 0 0 (hv_QX X 0 0 0) (J_X11_sets_118 x4 x5 x7 s0 mem) mem [] [(0, .ref (hv_ad X 65)), (4, .int (hv_I x4)), (5, .int (hv_I x5)), (7, .int (hv_I x7))] [.int (hv_I s0)] 118 := by
  unfold J_X11_sets_118
  refine hv_istore (lv' := [(8, .int (hv_I s0)), (0, .ref (hv_ad X 65)), (4, .int (hv_I x4)), (5, .int (hv_I x5)), (7, .int (hv_I x7))]) hc dX11_sets_118 (by decide) rfl ?_
  refine hv_aload_n hc dX11_sets_120 rfl (hv_m 1 rfl) ?_
  refine hv_aload_n hc dX11_sets_121 rfl (hv_m 1 rfl) ?_
  refine hv_aload_n hc dX11_sets_122 rfl (hv_m 1 rfl) ?_
  refine hv_getR hc fl_X11_29 sh_o_65 rfl dX11_sets_123 ?_
  refine hv_iload hc dX11_sets_126 (hv_m 3 rfl) ?_
  refine hv_iaload hc sh_a_71 (Nat.le_of_ble_eq_true rfl) dX11_sets_128 (fun v1 => ?_)
  refine hv_iload hc dX11_sets_129 (hv_m 4 rfl) ?_
  refine hv_aload_n hc dX11_sets_131 rfl (hv_m 1 rfl) ?_
  refine hv_iload hc dX11_sets_132 (hv_m 0 rfl) ?_
  refine hv_aload_n hc dX11_sets_134 rfl (hv_m 1 rfl) ?_
  refine hv_getR hc fl_X11_35 sh_o_65 rfl dX11_sets_135 ?_
  refine hv_iload hc dX11_sets_138 (hv_m 3 rfl) ?_
  refine hv_iaload hc sh_a_73 (Nat.le_of_ble_eq_true rfl) dX11_sets_140 (fun v2 => ?_)
  refine hv_callVi hc (c_X11_ahead s0 v2 mem) yv_X11_ahead tw_1344 sh_o_65 rfl rfl rfl rfl (Nat.le_of_ble_eq_true rfl) (Nat.le_of_ble_eq_true rfl) (Nat.zero_le _) (Nat.zero_le _) dX11_sets_141 (fun r3 m4 => ?_)
  refine hv_aload_n hc dX11_sets_144 rfl (hv_m 1 rfl) ?_
  refine hv_getR hc fl_X11_38 sh_o_65 rfl dX11_sets_145 ?_
  refine hv_iload hc dX11_sets_148 (hv_m 3 rfl) ?_
  refine hv_iaload hc sh_a_74 (Nat.le_of_ble_eq_true rfl) dX11_sets_150 (fun v5 => ?_)
  refine hv_callVi hc (c_X11_tree v1 x7 r3 v5 m4) yv_X11_tree tw_1348 sh_o_65 rfl rfl rfl rfl (Nat.le_of_ble_eq_true rfl) (Nat.le_of_ble_eq_true rfl) (Nat.zero_le _) (Nat.zero_le _) dX11_sets_151 (fun r6 m7 => ?_)
  refine hv_aload_n hc dX11_sets_154 rfl (hv_m 1 rfl) ?_
  refine hv_getR hc fl_X11_45 sh_o_65 rfl dX11_sets_155 ?_
  refine hv_iload hc dX11_sets_158 (hv_m 2 rfl) ?_
  refine hv_iaload hc sh_a_76 (Nat.le_of_ble_eq_true rfl) dX11_sets_160 (fun v8 => ?_)
  refine hv_callVi hc (c_X11_ahead r6 v8 m7) yv_X11_ahead tw_1344 sh_o_65 rfl rfl rfl rfl (Nat.le_of_ble_eq_true rfl) (Nat.le_of_ble_eq_true rfl) (Nat.zero_le _) (Nat.zero_le _) dX11_sets_161 (fun r9 m10 => ?_)
  exact hv_iret hc dX11_sets_164
def J_X11_sets_100 (x2 x4 x5 x6 s0 : Int) (mem : hMem) : hRs := hv_eq x6 0 (hv_ald mem 72 8000 x5 (fun v1 => J_X11_sets_118 x4 x5 s0 v1 mem)) (J_X11_sets_118 x4 x5 s0 x2 mem)
set_option maxRecDepth 100000 in
theorem g_X11_sets_100 {X : hv_X} (hc : hv_C X cX11_sets 9 RX11 (some FieldType.int) 4 0 0) (x2 x4 x5 x6 s0 : Int) (mem : hMem) : hv_R X 9 0 0 (hv_QX X 0 0 0) (J_X11_sets_100 x2 x4 x5 x6 s0 mem) mem [] [(0, .ref (hv_ad X 65)), (2, .int (hv_I x2)), (4, .int (hv_I x4)), (5, .int (hv_I x5)), (6, .int (hv_I x6))] [.int (hv_I s0)] 100 := by
  unfold J_X11_sets_100
  refine hv_istore (lv' := [(7, .int (hv_I s0)), (0, .ref (hv_ad X 65)), (2, .int (hv_I x2)), (4, .int (hv_I x4)), (5, .int (hv_I x5)), (6, .int (hv_I x6))]) hc dX11_sets_100 (by decide) rfl ?_
  refine hv_iload hc dX11_sets_102 (hv_m 5 rfl) ?_
  refine hv_if_eq (tgt := 111) hc dX11_sets_104 (by decide) ?_ ?_
  · refine hv_aload_n hc dX11_sets_111 rfl (hv_m 1 rfl) ?_
    refine hv_getR hc fl_X11_32 sh_o_65 rfl dX11_sets_112 ?_
    refine hv_iload hc dX11_sets_115 (hv_m 4 rfl) ?_
    refine hv_iaload hc sh_a_72 (Nat.le_of_ble_eq_true rfl) dX11_sets_117 (fun v1 => ?_)
    exact hv_pick [1, 3, 4, 0] rfl (g_X11_sets_118 hc x4 x5 s0 v1 mem)
  · refine hv_iload_n hc dX11_sets_107 rfl (hv_m 2 rfl) ?_
    refine hv_goto (tgt := 118) hc dX11_sets_108 (by decide) ?_
    exact hv_pick [1, 3, 4, 0] rfl (g_X11_sets_118 hc x4 x5 s0 x2 mem)
def J_X11_sets_14 (x1 x2 x3 s0 : Int) (mem : hMem) : hRs := hv_eq x1 0 (hv_lt s0 0 (J_X11_sets_165 x1 x2 x3 mem) (hv_ald mem 75 40000 x3 (fun v1 => hv_ald mem 71 8000 v1 (fun v2 => hv_ald mem 75 40000 s0 (fun v3 => hv_ald mem 71 8000 v3 (fun v4 => hv_eq v2 v4 (hv_ald mem 75 40000 x3 (fun v5 => hv_ald mem 75 40000 s0 (fun v6 => hv_b (f_X11_link v5 v6 mem) (fun r7 m8 => hv_ald m8 72 8000 r7 (fun v9 => hv_b (f_X11_isLess v9 x2 m8) (fun r10 m11 => hv_eq r10 0 (J_X11_sets_100 x2 s0 r7 r10 x2 m11) (hv_ald m11 72 8000 r7 (fun v12 => J_X11_sets_100 x2 s0 r7 r10 v12 m11)))))))) (J_X11_sets_165 x1 x2 x3 mem))))))) (J_X11_sets_165 x1 x2 x3 mem)
set_option maxRecDepth 100000 in
theorem g_X11_sets_14 {X : hv_X} (hc : hv_C X cX11_sets 9 RX11 (some FieldType.int) 4 0 0) (x1 x2 x3 s0 : Int) (mem : hMem) : hv_R X 9 0 0 (hv_QX X 0 0 0) (J_X11_sets_14 x1 x2 x3 s0 mem) mem [] [(0, .ref (hv_ad X 65)), (1, .int (hv_I x1)), (2, .int (hv_I x2)), (3, .int (hv_I x3))] [.int (hv_I s0)] 14 := by
  unfold J_X11_sets_14
  refine hv_istore (lv' := [(4, .int (hv_I s0)), (0, .ref (hv_ad X 65)), (1, .int (hv_I x1)), (2, .int (hv_I x2)), (3, .int (hv_I x3))]) hc dX11_sets_14 (by decide) rfl ?_
  refine hv_iload_n hc dX11_sets_16 rfl (hv_m 2 rfl) ?_
  refine hv_if_ne (tgt := 165) hc dX11_sets_17 (by decide) ?_ ?_
  · exact hv_pick [1, 2, 3, 4] rfl (g_X11_sets_165 hc x1 x2 x3 mem)
  · refine hv_iload hc dX11_sets_20 (hv_m 0 rfl) ?_
    refine hv_if_lt (tgt := 165) hc dX11_sets_22 (by decide) ?_ ?_
    · exact hv_pick [1, 2, 3, 4] rfl (g_X11_sets_165 hc x1 x2 x3 mem)
    · refine hv_aload_n hc dX11_sets_25 rfl (hv_m 1 rfl) ?_
      refine hv_getR hc fl_X11_29 sh_o_65 rfl dX11_sets_26 ?_
      refine hv_aload_n hc dX11_sets_29 rfl (hv_m 1 rfl) ?_
      refine hv_getR hc fl_X11_42 sh_o_65 rfl dX11_sets_30 ?_
      refine hv_iload_n hc dX11_sets_33 rfl (hv_m 4 rfl) ?_
      refine hv_iaload hc sh_a_75 (Nat.le_of_ble_eq_true rfl) dX11_sets_34 (fun v1 => ?_)
      refine hv_iaload hc sh_a_71 (Nat.le_of_ble_eq_true rfl) dX11_sets_35 (fun v2 => ?_)
      refine hv_aload_n hc dX11_sets_36 rfl (hv_m 1 rfl) ?_
      refine hv_getR hc fl_X11_29 sh_o_65 rfl dX11_sets_37 ?_
      refine hv_aload_n hc dX11_sets_40 rfl (hv_m 1 rfl) ?_
      refine hv_getR hc fl_X11_42 sh_o_65 rfl dX11_sets_41 ?_
      refine hv_iload hc dX11_sets_44 (hv_m 0 rfl) ?_
      refine hv_iaload hc sh_a_75 (Nat.le_of_ble_eq_true rfl) dX11_sets_46 (fun v3 => ?_)
      refine hv_iaload hc sh_a_71 (Nat.le_of_ble_eq_true rfl) dX11_sets_47 (fun v4 => ?_)
      refine hv_icmp_ne (tgt := 165) hc dX11_sets_48 (by decide) ?_ ?_
      · exact hv_pick [1, 2, 3, 4] rfl (g_X11_sets_165 hc x1 x2 x3 mem)
      · refine hv_aload_n hc dX11_sets_51 rfl (hv_m 1 rfl) ?_
        refine hv_aload_n hc dX11_sets_52 rfl (hv_m 1 rfl) ?_
        refine hv_getR hc fl_X11_42 sh_o_65 rfl dX11_sets_53 ?_
        refine hv_iload_n hc dX11_sets_56 rfl (hv_m 4 rfl) ?_
        refine hv_iaload hc sh_a_75 (Nat.le_of_ble_eq_true rfl) dX11_sets_57 (fun v5 => ?_)
        refine hv_aload_n hc dX11_sets_58 rfl (hv_m 1 rfl) ?_
        refine hv_getR hc fl_X11_42 sh_o_65 rfl dX11_sets_59 ?_
        refine hv_iload hc dX11_sets_62 (hv_m 0 rfl) ?_
        refine hv_iaload hc sh_a_75 (Nat.le_of_ble_eq_true rfl) dX11_sets_64 (fun v6 => ?_)
        refine hv_callVi hc (c_X11_link v5 v6 mem) yv_X11_link tw_1340 sh_o_65 rfl rfl rfl rfl (Nat.le_of_ble_eq_true rfl) (Nat.le_of_ble_eq_true rfl) (Nat.zero_le _) (Nat.zero_le _) dX11_sets_65 (fun r7 m8 => ?_)
        refine hv_istore (lv' := [(5, .int (hv_I r7)), (4, .int (hv_I s0)), (0, .ref (hv_ad X 65)), (1, .int (hv_I x1)), (2, .int (hv_I x2)), (3, .int (hv_I x3))]) hc dX11_sets_68 (by decide) rfl ?_
        refine hv_aload_n hc dX11_sets_70 rfl (hv_m 2 rfl) ?_
        refine hv_aload_n hc dX11_sets_71 rfl (hv_m 2 rfl) ?_
        refine hv_getR hc fl_X11_32 sh_o_65 rfl dX11_sets_72 ?_
        refine hv_iload hc dX11_sets_75 (hv_m 0 rfl) ?_
        refine hv_iaload hc sh_a_72 (Nat.le_of_ble_eq_true rfl) dX11_sets_77 (fun v9 => ?_)
        refine hv_iload_n hc dX11_sets_78 rfl (hv_m 4 rfl) ?_
        refine hv_callVi hc (c_X11_isLess v9 x2 m8) yv_X11_isLess tw_1328 sh_o_65 rfl rfl rfl rfl (Nat.le_of_ble_eq_true rfl) (Nat.le_of_ble_eq_true rfl) (Nat.zero_le _) (Nat.zero_le _) dX11_sets_79 (fun r10 m11 => ?_)
        refine hv_istore (lv' := [(6, .int (hv_I r10)), (5, .int (hv_I r7)), (4, .int (hv_I s0)), (0, .ref (hv_ad X 65)), (1, .int (hv_I x1)), (2, .int (hv_I x2)), (3, .int (hv_I x3))]) hc dX11_sets_82 (by decide) rfl ?_
        refine hv_iload hc dX11_sets_84 (hv_m 0 rfl) ?_
        refine hv_if_eq (tgt := 99) hc dX11_sets_86 (by decide) ?_ ?_
        · refine hv_iload_n hc dX11_sets_99 rfl (hv_m 5 rfl) ?_
          exact hv_pick [3, 5, 2, 1, 0] rfl (g_X11_sets_100 hc x2 s0 r7 r10 x2 m11)
        · refine hv_aload_n hc dX11_sets_89 rfl (hv_m 3 rfl) ?_
          refine hv_getR hc fl_X11_32 sh_o_65 rfl dX11_sets_90 ?_
          refine hv_iload hc dX11_sets_93 (hv_m 1 rfl) ?_
          refine hv_iaload hc sh_a_72 (Nat.le_of_ble_eq_true rfl) dX11_sets_95 (fun v12 => ?_)
          refine hv_goto (tgt := 100) hc dX11_sets_96 (by decide) ?_
          exact hv_pick [3, 5, 2, 1, 0] rfl (g_X11_sets_100 hc x2 s0 r7 r10 v12 m11)
def f_X11_sets (x1 x2 x3 : Int) (mem : hMem) : hRs := hv_lt x3 0 (J_X11_sets_14 x1 x2 x3 ((-1)) mem) (hv_ald mem 76 40000 x3 (fun v1 => J_X11_sets_14 x1 x2 x3 v1 mem))
set_option maxRecDepth 100000 in
set_option maxHeartbeats 4000000 in
theorem c_X11_sets (x1 x2 x3 : Int) (mem : hMem) : hv_Met 4 0 0 0 yX11_sets cX11_sets 9 (some FieldType.int) (fun ad _ _ => [.ref (ad 65), .int (hv_I x1), .int (hv_I x2), .int (hv_I x3)]) mem (f_X11_sets x1 x2 x3 mem) := by
  refine hv_start (by decide +kernel) (fun _ _ _ => Nat.le_of_ble_eq_true rfl) ?_
  intro X hc
  have hc : hv_C X cX11_sets 9 RX11 (some FieldType.int) 4 0 0 := hc
  show hv_R X 9 0 0 (hv_QX X 0 0 0) (f_X11_sets x1 x2 x3 mem) mem [] [(0, .ref (hv_ad X 65)), (1, .int (hv_I x1)), (2, .int (hv_I x2)), (3, .int (hv_I x3))] [] 0
  unfold f_X11_sets
  refine hv_iload_n hc dX11_sets_0 rfl (hv_m 3 rfl) ?_
  refine hv_if_ge (tgt := 8) hc dX11_sets_1 (by decide) ?_ ?_
  · refine hv_aload_n hc dX11_sets_8 rfl (hv_m 0 rfl) ?_
    refine hv_getR hc fl_X11_45 sh_o_65 rfl dX11_sets_9 ?_
    refine hv_iload_n hc dX11_sets_12 rfl (hv_m 3 rfl) ?_
    refine hv_iaload hc sh_a_76 (Nat.le_of_ble_eq_true rfl) dX11_sets_13 (fun v1 => ?_)
    exact hv_pick [0, 1, 2, 3] rfl (g_X11_sets_14 hc x1 x2 x3 v1 mem)
  · refine hv_iconst hc dX11_sets_4 ?_
    refine hv_goto (tgt := 14) hc dX11_sets_5 (by decide) ?_
    exact hv_pick [0, 1, 2, 3] rfl (g_X11_sets_14 hc x1 x2 x3 ((-1)) mem)
def J_X11_joins_8 (x2 x3 : Int) (mem : hMem) : hRs := hv_lt x2 0 (hv_ret x3 mem) (hv_ret x2 mem)
set_option maxRecDepth 100000 in
theorem g_X11_joins_8 {X : hv_X} (hc : hv_C X cX11_joins 6 RX11 (some FieldType.int) 5 0 0) (x2 x3 : Int) (mem : hMem) : hv_R X 6 0 0 (hv_QX X 0 0 0) (J_X11_joins_8 x2 x3 mem) mem [] [(2, .int (hv_I x2)), (3, .int (hv_I x3))] [] 8 := by
  unfold J_X11_joins_8
  refine hv_iload_n hc dX11_joins_8 rfl (hv_m 0 rfl) ?_
  refine hv_if_ge (tgt := 16) hc dX11_joins_9 (by decide) ?_ ?_
  · refine hv_iload_n hc dX11_joins_16 rfl (hv_m 0 rfl) ?_
    exact hv_iret hc dX11_joins_17
  · refine hv_iload_n hc dX11_joins_12 rfl (hv_m 1 rfl) ?_
    refine hv_goto (tgt := 17) hc dX11_joins_13 (by decide) ?_
    exact hv_iret hc dX11_joins_17
def J_X11_joins_58 (x5 s1 s3 s4 : Int) (mem : hMem) : hRs := hv_ald mem 70 8000 x5 (fun v1 => hv_b (f_X11_sets s3 s4 v1 mem) (fun r2 m3 => hv_b (f_X11_heap s1 r2 m3) (fun r4 m5 => hv_ret r4 m5)))
set_option maxRecDepth 100000 in
theorem g_X11_joins_58 {X : hv_X} (hc : hv_C X cX11_joins 6 RX11 (some FieldType.int) 5 0 0) (x5 s1 s3 s4 : Int) (mem : hMem) : hv_R X 6 0 0 (hv_QX X 0 0 0) (J_X11_joins_58 x5 s1 s3 s4 mem) mem [] [(0, .ref (hv_ad X 65)), (5, .int (hv_I x5))] [.int (hv_I s4), .int (hv_I s3), .ref (hv_ad X 65), .int (hv_I s1), .ref (hv_ad X 65)] 58 := by
  unfold J_X11_joins_58
  refine hv_aload_n hc dX11_joins_58 rfl (hv_m 0 rfl) ?_
  refine hv_getR hc fl_X11_26 sh_o_65 rfl dX11_joins_59 ?_
  refine hv_iload hc dX11_joins_62 (hv_m 1 rfl) ?_
  refine hv_iaload hc sh_a_70 (Nat.le_of_ble_eq_true rfl) dX11_joins_64 (fun v1 => ?_)
  refine hv_callVi hc (c_X11_sets s3 s4 v1 mem) yv_X11_sets tw_1336 sh_o_65 rfl rfl rfl rfl (Nat.le_of_ble_eq_true rfl) (Nat.le_of_ble_eq_true rfl) (Nat.zero_le _) (Nat.zero_le _) dX11_joins_65 (fun r2 m3 => ?_)
  refine hv_callVi hc (c_X11_heap s1 r2 m3) yv_X11_heap tw_1320 sh_o_65 rfl rfl rfl rfl (Nat.le_of_ble_eq_true rfl) (Nat.le_of_ble_eq_true rfl) (Nat.zero_le _) (Nat.zero_le _) dX11_joins_68 (fun r4 m5 => ?_)
  exact hv_iret hc dX11_joins_71
def J_X11_joins_36 (x1 x2 x3 x4 s0 : Int) (mem : hMem) : hRs := hv_ald mem 69 8000 s0 (fun v1 => hv_eq x4 0 (J_X11_joins_58 s0 v1 x1 x3 mem) (J_X11_joins_58 s0 v1 x1 x2 mem))
set_option maxRecDepth 100000 in
theorem g_X11_joins_36 {X : hv_X} (hc : hv_C X cX11_joins 6 RX11 (some FieldType.int) 5 0 0) (x1 x2 x3 x4 s0 : Int) (mem : hMem) : hv_R X 6 0 0 (hv_QX X 0 0 0) (J_X11_joins_36 x1 x2 x3 x4 s0 mem) mem [] [(0, .ref (hv_ad X 65)), (1, .int (hv_I x1)), (2, .int (hv_I x2)), (3, .int (hv_I x3)), (4, .int (hv_I x4))] [.int (hv_I s0)] 36 := by
  unfold J_X11_joins_36
  refine hv_istore (lv' := [(5, .int (hv_I s0)), (0, .ref (hv_ad X 65)), (1, .int (hv_I x1)), (2, .int (hv_I x2)), (3, .int (hv_I x3)), (4, .int (hv_I x4))]) hc dX11_joins_36 (by decide) rfl ?_
  refine hv_aload_n hc dX11_joins_38 rfl (hv_m 1 rfl) ?_
  refine hv_aload_n hc dX11_joins_39 rfl (hv_m 1 rfl) ?_
  refine hv_getR hc fl_X11_23 sh_o_65 rfl dX11_joins_40 ?_
  refine hv_iload hc dX11_joins_43 (hv_m 0 rfl) ?_
  refine hv_iaload hc sh_a_69 (Nat.le_of_ble_eq_true rfl) dX11_joins_45 (fun v1 => ?_)
  refine hv_aload_n hc dX11_joins_46 rfl (hv_m 1 rfl) ?_
  refine hv_iload_n hc dX11_joins_47 rfl (hv_m 2 rfl) ?_
  refine hv_iload hc dX11_joins_48 (hv_m 5 rfl) ?_
  refine hv_if_eq (tgt := 57) hc dX11_joins_50 (by decide) ?_ ?_
  · refine hv_iload_n hc dX11_joins_57 rfl (hv_m 4 rfl) ?_
    exact hv_pick [1, 0] rfl (g_X11_joins_58 hc s0 v1 x1 x3 mem)
  · refine hv_iload_n hc dX11_joins_53 rfl (hv_m 3 rfl) ?_
    refine hv_goto (tgt := 58) hc dX11_joins_54 (by decide) ?_
    exact hv_pick [1, 0] rfl (g_X11_joins_58 hc s0 v1 x1 x2 mem)
def f_X11_joins (x1 x2 x3 : Int) (mem : hMem) : hRs := hv_lt x2 0 (J_X11_joins_8 x2 x3 mem) (hv_lt x3 0 (J_X11_joins_8 x2 x3 mem) (hv_b (f_X11_isLess x3 x2 mem) (fun r1 m2 => hv_eq r1 0 (J_X11_joins_36 x1 x2 x3 r1 x2 m2) (J_X11_joins_36 x1 x2 x3 r1 x3 m2))))
set_option maxRecDepth 100000 in
set_option maxHeartbeats 4000000 in
theorem c_X11_joins (x1 x2 x3 : Int) (mem : hMem) : hv_Met 5 0 0 0 yX11_joins cX11_joins 6 (some FieldType.int) (fun ad _ _ => [.ref (ad 65), .int (hv_I x1), .int (hv_I x2), .int (hv_I x3)]) mem (f_X11_joins x1 x2 x3 mem) := by
  refine hv_start (by decide +kernel) (fun _ _ _ => Nat.le_of_ble_eq_true rfl) ?_
  intro X hc
  have hc : hv_C X cX11_joins 6 RX11 (some FieldType.int) 5 0 0 := hc
  show hv_R X 6 0 0 (hv_QX X 0 0 0) (f_X11_joins x1 x2 x3 mem) mem [] [(0, .ref (hv_ad X 65)), (1, .int (hv_I x1)), (2, .int (hv_I x2)), (3, .int (hv_I x3))] [] 0
  unfold f_X11_joins
  refine hv_iload_n hc dX11_joins_0 rfl (hv_m 2 rfl) ?_
  refine hv_if_lt (tgt := 8) hc dX11_joins_1 (by decide) ?_ ?_
  · exact hv_pick [2, 3] rfl (g_X11_joins_8 hc x2 x3 mem)
  · refine hv_iload_n hc dX11_joins_4 rfl (hv_m 3 rfl) ?_
    refine hv_if_ge (tgt := 18) hc dX11_joins_5 (by decide) ?_ ?_
    · refine hv_aload_n hc dX11_joins_18 rfl (hv_m 0 rfl) ?_
      refine hv_iload_n hc dX11_joins_19 rfl (hv_m 3 rfl) ?_
      refine hv_iload_n hc dX11_joins_20 rfl (hv_m 2 rfl) ?_
      refine hv_callVi hc (c_X11_isLess x3 x2 mem) yv_X11_isLess tw_1328 sh_o_65 rfl rfl rfl rfl (Nat.le_of_ble_eq_true rfl) (Nat.le_of_ble_eq_true rfl) (Nat.zero_le _) (Nat.zero_le _) dX11_joins_21 (fun r1 m2 => ?_)
      refine hv_istore (lv' := [(4, .int (hv_I r1)), (0, .ref (hv_ad X 65)), (1, .int (hv_I x1)), (2, .int (hv_I x2)), (3, .int (hv_I x3))]) hc dX11_joins_24 (by decide) rfl ?_
      refine hv_iload hc dX11_joins_26 (hv_m 0 rfl) ?_
      refine hv_if_eq (tgt := 35) hc dX11_joins_28 (by decide) ?_ ?_
      · refine hv_iload_n hc dX11_joins_35 rfl (hv_m 3 rfl) ?_
        exact hv_pick [1, 2, 3, 4, 0] rfl (g_X11_joins_36 hc x1 x2 x3 r1 x2 m2)
      · refine hv_iload_n hc dX11_joins_31 rfl (hv_m 4 rfl) ?_
        refine hv_goto (tgt := 36) hc dX11_joins_32 (by decide) ?_
        exact hv_pick [1, 2, 3, 4, 0] rfl (g_X11_joins_36 hc x1 x2 x3 r1 x3 m2)
    · exact hv_pick [2, 3] rfl (g_X11_joins_8 hc x2 x3 mem)
def J_X11_withoutFirst_55 (rf0 : Int → Int → hMem → hRs) (x1 x2 : Int) (mem : hMem) : hRs := hv_ald mem 75 40000 x1 (fun v1 => hv_ald mem 76 40000 x1 (fun v2 => hv_b (rf0 v2 x2 mem) (fun r3 m4 => hv_b (f_X11_ahead v1 r3 m4) (fun r5 m6 => hv_ret r5 m6))))
set_option maxRecDepth 100000 in
theorem g_X11_withoutFirst_55 {X : hv_X} {d : Nat} (hc : hv_C X cX11_withoutFirst 3 RX11 (some FieldType.int) (d + 1 + 6) 0 0) (rf0 : Int → Int → hMem → hRs) (hrf0 : ∀ (x1 x2 : Int) (mem : hMem), hv_Met (d + 6) 0 0 0 yX11_withoutFirst cX11_withoutFirst 3 (some FieldType.int) (fun ad _ _ => [.ref (ad 65), .int (hv_I x1), .int (hv_I x2)]) mem (rf0 x1 x2 mem)) (x1 x2 : Int) (mem : hMem) : hv_R X 3 0 0 (hv_QX X 0 0 0) (J_X11_withoutFirst_55 rf0 x1 x2 mem) mem [] [(0, .ref (hv_ad X 65)), (1, .int (hv_I x1)), (2, .int (hv_I x2))] [] 55 := by
  unfold J_X11_withoutFirst_55
  refine hv_aload_n hc dX11_withoutFirst_55 rfl (hv_m 0 rfl) ?_
  refine hv_aload_n hc dX11_withoutFirst_56 rfl (hv_m 0 rfl) ?_
  refine hv_getR hc fl_X11_42 sh_o_65 rfl dX11_withoutFirst_57 ?_
  refine hv_iload_n hc dX11_withoutFirst_60 rfl (hv_m 1 rfl) ?_
  refine hv_iaload hc sh_a_75 (Nat.le_of_ble_eq_true rfl) dX11_withoutFirst_61 (fun v1 => ?_)
  refine hv_aload_n hc dX11_withoutFirst_62 rfl (hv_m 0 rfl) ?_
  refine hv_aload_n hc dX11_withoutFirst_63 rfl (hv_m 0 rfl) ?_
  refine hv_getR hc fl_X11_45 sh_o_65 rfl dX11_withoutFirst_64 ?_
  refine hv_iload_n hc dX11_withoutFirst_67 rfl (hv_m 1 rfl) ?_
  refine hv_iaload hc sh_a_76 (Nat.le_of_ble_eq_true rfl) dX11_withoutFirst_68 (fun v2 => ?_)
  refine hv_iload_n hc dX11_withoutFirst_69 rfl (hv_m 2 rfl) ?_
  refine hv_callVi hc (hrf0 v2 x2 mem) yv_X11_withoutFirst tw_1360 sh_o_65 rfl rfl rfl rfl (Nat.le_of_ble_eq_true rfl) (by omega) (Nat.zero_le _) (Nat.zero_le _) dX11_withoutFirst_70 (fun r3 m4 => ?_)
  refine hv_callVi hc (c_X11_ahead v1 r3 m4) yv_X11_ahead tw_1344 sh_o_65 rfl rfl rfl rfl (Nat.le_of_ble_eq_true rfl) (by omega) (Nat.zero_le _) (Nat.zero_le _) dX11_withoutFirst_73 (fun r5 m6 => ?_)
  exact hv_iret hc dX11_withoutFirst_76
def fs_X11_withoutFirst (rf0 : Int → Int → hMem → hRs) (x1 x2 : Int) (mem : hMem) : hRs := hv_ald mem 75 40000 x1 (fun v1 => hv_ald mem 72 8000 v1 (fun v2 => hv_ald mem 72 8000 x2 (fun v3 => hv_b (f_X11_isLess v2 v3 mem) (fun r4 m5 => hv_eq r4 0 (hv_ald m5 72 8000 x2 (fun v6 => hv_ald m5 75 40000 x1 (fun v7 => hv_ald m5 72 8000 v7 (fun v8 => hv_b (f_X11_isLess v6 v8 m5) (fun r9 m10 => hv_eq r9 0 (hv_ald m10 76 40000 x1 (fun v11 => hv_ret v11 m10)) (J_X11_withoutFirst_55 rf0 x1 x2 m10)))))) (J_X11_withoutFirst_55 rf0 x1 x2 m5)))))
set_option maxRecDepth 100000 in
set_option maxHeartbeats 4000000 in
theorem cs_X11_withoutFirst (d : Nat) (rf0 : Int → Int → hMem → hRs) (hrf0 : ∀ (x1 x2 : Int) (mem : hMem), hv_Met (d + 6) 0 0 0 yX11_withoutFirst cX11_withoutFirst 3 (some FieldType.int) (fun ad _ _ => [.ref (ad 65), .int (hv_I x1), .int (hv_I x2)]) mem (rf0 x1 x2 mem)) (x1 x2 : Int) (mem : hMem) : hv_Met (d + 1 + 6) 0 0 0 yX11_withoutFirst cX11_withoutFirst 3 (some FieldType.int) (fun ad _ _ => [.ref (ad 65), .int (hv_I x1), .int (hv_I x2)]) mem (fs_X11_withoutFirst rf0 x1 x2 mem) := by
  refine hv_start (by decide +kernel) (fun _ _ _ => Nat.le_of_ble_eq_true rfl) ?_
  intro X hc
  have hc : hv_C X cX11_withoutFirst 3 RX11 (some FieldType.int) (d + 1 + 6) 0 0 := hc
  show hv_R X 3 0 0 (hv_QX X 0 0 0) (fs_X11_withoutFirst rf0 x1 x2 mem) mem [] [(0, .ref (hv_ad X 65)), (1, .int (hv_I x1)), (2, .int (hv_I x2))] [] 0
  unfold fs_X11_withoutFirst
  refine hv_aload_n hc dX11_withoutFirst_0 rfl (hv_m 0 rfl) ?_
  refine hv_aload_n hc dX11_withoutFirst_1 rfl (hv_m 0 rfl) ?_
  refine hv_getR hc fl_X11_32 sh_o_65 rfl dX11_withoutFirst_2 ?_
  refine hv_aload_n hc dX11_withoutFirst_5 rfl (hv_m 0 rfl) ?_
  refine hv_getR hc fl_X11_42 sh_o_65 rfl dX11_withoutFirst_6 ?_
  refine hv_iload_n hc dX11_withoutFirst_9 rfl (hv_m 1 rfl) ?_
  refine hv_iaload hc sh_a_75 (Nat.le_of_ble_eq_true rfl) dX11_withoutFirst_10 (fun v1 => ?_)
  refine hv_iaload hc sh_a_72 (Nat.le_of_ble_eq_true rfl) dX11_withoutFirst_11 (fun v2 => ?_)
  refine hv_aload_n hc dX11_withoutFirst_12 rfl (hv_m 0 rfl) ?_
  refine hv_getR hc fl_X11_32 sh_o_65 rfl dX11_withoutFirst_13 ?_
  refine hv_iload_n hc dX11_withoutFirst_16 rfl (hv_m 2 rfl) ?_
  refine hv_iaload hc sh_a_72 (Nat.le_of_ble_eq_true rfl) dX11_withoutFirst_17 (fun v3 => ?_)
  refine hv_callVi hc (c_X11_isLess v2 v3 mem) yv_X11_isLess tw_1328 sh_o_65 rfl rfl rfl rfl (Nat.le_of_ble_eq_true rfl) (by omega) (Nat.zero_le _) (Nat.zero_le _) dX11_withoutFirst_18 (fun r4 m5 => ?_)
  refine hv_if_ne (tgt := 55) hc dX11_withoutFirst_21 (by decide) ?_ ?_
  · exact hv_pick [0, 1, 2] rfl (g_X11_withoutFirst_55 hc rf0 hrf0 x1 x2 m5)
  · refine hv_aload_n hc dX11_withoutFirst_24 rfl (hv_m 0 rfl) ?_
    refine hv_aload_n hc dX11_withoutFirst_25 rfl (hv_m 0 rfl) ?_
    refine hv_getR hc fl_X11_32 sh_o_65 rfl dX11_withoutFirst_26 ?_
    refine hv_iload_n hc dX11_withoutFirst_29 rfl (hv_m 2 rfl) ?_
    refine hv_iaload hc sh_a_72 (Nat.le_of_ble_eq_true rfl) dX11_withoutFirst_30 (fun v6 => ?_)
    refine hv_aload_n hc dX11_withoutFirst_31 rfl (hv_m 0 rfl) ?_
    refine hv_getR hc fl_X11_32 sh_o_65 rfl dX11_withoutFirst_32 ?_
    refine hv_aload_n hc dX11_withoutFirst_35 rfl (hv_m 0 rfl) ?_
    refine hv_getR hc fl_X11_42 sh_o_65 rfl dX11_withoutFirst_36 ?_
    refine hv_iload_n hc dX11_withoutFirst_39 rfl (hv_m 1 rfl) ?_
    refine hv_iaload hc sh_a_75 (Nat.le_of_ble_eq_true rfl) dX11_withoutFirst_40 (fun v7 => ?_)
    refine hv_iaload hc sh_a_72 (Nat.le_of_ble_eq_true rfl) dX11_withoutFirst_41 (fun v8 => ?_)
    refine hv_callVi hc (c_X11_isLess v6 v8 m5) yv_X11_isLess tw_1328 sh_o_65 rfl rfl rfl rfl (Nat.le_of_ble_eq_true rfl) (by omega) (Nat.zero_le _) (Nat.zero_le _) dX11_withoutFirst_42 (fun r9 m10 => ?_)
    refine hv_if_ne (tgt := 55) hc dX11_withoutFirst_45 (by decide) ?_ ?_
    · exact hv_pick [0, 1, 2] rfl (g_X11_withoutFirst_55 hc rf0 hrf0 x1 x2 m10)
    · refine hv_aload_n hc dX11_withoutFirst_48 rfl (hv_m 0 rfl) ?_
      refine hv_getR hc fl_X11_45 sh_o_65 rfl dX11_withoutFirst_49 ?_
      refine hv_iload_n hc dX11_withoutFirst_52 rfl (hv_m 1 rfl) ?_
      refine hv_iaload hc sh_a_76 (Nat.le_of_ble_eq_true rfl) dX11_withoutFirst_53 (fun v11 => ?_)
      exact hv_iret hc dX11_withoutFirst_54
def rr_wof : Nat → Int → Int → hMem → hRs
  | 0 => fun _ _ _ => none
  | d + 1 => fun x1 x2 mem => fs_X11_withoutFirst (rr_wof d) x1 x2 mem
theorem cr_wof : ∀ d : Nat, (∀ (x1 x2 : Int) (mem : hMem), hv_Met (d + 6) 0 0 0 yX11_withoutFirst cX11_withoutFirst 3 (some FieldType.int) (fun ad _ _ => [.ref (ad 65), .int (hv_I x1), .int (hv_I x2)]) mem (rr_wof d x1 x2 mem)) := by
  intro d
  induction d with
  | zero => exact fun x1 x2 mem l D ca ad ak av sz r m' ht => by cases ht
  | succ d ih => exact fun x1 x2 mem => cs_X11_withoutFirst d _ ih x1 x2 mem
def f_X11_withoutFirst (x1 x2 : Int) (mem : hMem) : hRs := rr_wof 64 x1 x2 mem
theorem c_X11_withoutFirst (x1 x2 : Int) (mem : hMem) : hv_Met 70 0 0 0 yX11_withoutFirst cX11_withoutFirst 3 (some FieldType.int) (fun ad _ _ => [.ref (ad 65), .int (hv_I x1), .int (hv_I x2)]) mem (f_X11_withoutFirst x1 x2 mem) := (cr_wof 64) x1 x2 mem
def f_X11_settled (x1 : Int) (mem : hMem) : hRs := hv_lt x1 0 (hv_ret ((-1)) mem) (hv_ald mem 75 40000 x1 (fun v1 => hv_ald mem 76 40000 x1 (fun v2 => hv_b (f_X11_carries v1 v2 mem) (fun r3 m4 => hv_ret r3 m4))))
set_option maxRecDepth 100000 in
set_option maxHeartbeats 4000000 in
theorem c_X11_settled (x1 : Int) (mem : hMem) : hv_Met 4 0 0 0 yX11_settled cX11_settled 2 (some FieldType.int) (fun ad _ _ => [.ref (ad 65), .int (hv_I x1)]) mem (f_X11_settled x1 mem) := by
  refine hv_start (by decide +kernel) (fun _ _ _ => Nat.le_of_ble_eq_true rfl) ?_
  intro X hc
  have hc : hv_C X cX11_settled 2 RX11 (some FieldType.int) 4 0 0 := hc
  show hv_R X 2 0 0 (hv_QX X 0 0 0) (f_X11_settled x1 mem) mem [] [(0, .ref (hv_ad X 65)), (1, .int (hv_I x1))] [] 0
  unfold f_X11_settled
  refine hv_iload_n hc dX11_settled_0 rfl (hv_m 1 rfl) ?_
  refine hv_if_ge (tgt := 8) hc dX11_settled_1 (by decide) ?_ ?_
  · refine hv_aload_n hc dX11_settled_8 rfl (hv_m 0 rfl) ?_
    refine hv_aload_n hc dX11_settled_9 rfl (hv_m 0 rfl) ?_
    refine hv_getR hc fl_X11_42 sh_o_65 rfl dX11_settled_10 ?_
    refine hv_iload_n hc dX11_settled_13 rfl (hv_m 1 rfl) ?_
    refine hv_iaload hc sh_a_75 (Nat.le_of_ble_eq_true rfl) dX11_settled_14 (fun v1 => ?_)
    refine hv_aload_n hc dX11_settled_15 rfl (hv_m 0 rfl) ?_
    refine hv_getR hc fl_X11_45 sh_o_65 rfl dX11_settled_16 ?_
    refine hv_iload_n hc dX11_settled_19 rfl (hv_m 1 rfl) ?_
    refine hv_iaload hc sh_a_76 (Nat.le_of_ble_eq_true rfl) dX11_settled_20 (fun v2 => ?_)
    refine hv_callVi hc (c_X11_carries v1 v2 mem) yv_X11_carries tw_1352 sh_o_65 rfl rfl rfl rfl (Nat.le_of_ble_eq_true rfl) (Nat.le_of_ble_eq_true rfl) (Nat.zero_le _) (Nat.zero_le _) dX11_settled_21 (fun r3 m4 => ?_)
    exact hv_iret hc dX11_settled_24
  · refine hv_iconst hc dX11_settled_4 ?_
    refine hv_goto (tgt := 24) hc dX11_settled_5 (by decide) ?_
    exact hv_iret hc dX11_settled_24
def J_X11_goesTogether_8 (rf0 : Int → Int → hMem → hRs) (x1 x2 : Int) (mem : hMem) : hRs := hv_lt x1 0 (hv_ret x2 mem) (hv_ret x1 mem)
set_option maxRecDepth 100000 in
theorem g_X11_goesTogether_8 {X : hv_X} {d : Nat} (hc : hv_C X cX11_goesTogether 6 RX11 (some FieldType.int) (d + 1 + 8) 0 0) (rf0 : Int → Int → hMem → hRs) (hrf0 : ∀ (x1 x2 : Int) (mem : hMem), hv_Met (d + 8) 0 0 0 yX11_goesTogether cX11_goesTogether 6 (some FieldType.int) (fun ad _ _ => [.ref (ad 65), .int (hv_I x1), .int (hv_I x2)]) mem (rf0 x1 x2 mem)) (x1 x2 : Int) (mem : hMem) : hv_R X 6 0 0 (hv_QX X 0 0 0) (J_X11_goesTogether_8 rf0 x1 x2 mem) mem [] [(1, .int (hv_I x1)), (2, .int (hv_I x2))] [] 8 := by
  unfold J_X11_goesTogether_8
  refine hv_iload_n hc dX11_goesTogether_8 rfl (hv_m 0 rfl) ?_
  refine hv_if_ge (tgt := 16) hc dX11_goesTogether_9 (by decide) ?_ ?_
  · refine hv_iload_n hc dX11_goesTogether_16 rfl (hv_m 0 rfl) ?_
    exact hv_iret hc dX11_goesTogether_17
  · refine hv_iload_n hc dX11_goesTogether_12 rfl (hv_m 1 rfl) ?_
    refine hv_goto (tgt := 17) hc dX11_goesTogether_13 (by decide) ?_
    exact hv_iret hc dX11_goesTogether_17
def fs_X11_goesTogether (rf0 : Int → Int → hMem → hRs) (x1 x2 : Int) (mem : hMem) : hRs := hv_lt x1 0 (J_X11_goesTogether_8 rf0 x1 x2 mem) (hv_lt x2 0 (J_X11_goesTogether_8 rf0 x1 x2 mem) (hv_ald mem 75 40000 x1 (fun v1 => hv_ald mem 75 40000 x2 (fun v2 => hv_ald mem 71 8000 v1 (fun v3 => hv_ald mem 71 8000 v2 (fun v4 => hv_lt v3 v4 (hv_ald mem 76 40000 x1 (fun v20 => hv_b (rf0 v20 x2 mem) (fun r21 m22 => hv_b (f_X11_ahead v1 r21 m22) (fun r23 m24 => hv_ret r23 m24)))) (hv_ald mem 71 8000 v2 (fun v5 => hv_ald mem 71 8000 v1 (fun v6 => hv_lt v5 v6 (hv_ald mem 76 40000 x2 (fun v15 => hv_b (rf0 x1 v15 mem) (fun r16 m17 => hv_b (f_X11_ahead v2 r16 m17) (fun r18 m19 => hv_ret r18 m19)))) (hv_ald mem 76 40000 x1 (fun v7 => hv_ald mem 76 40000 x2 (fun v8 => hv_b (rf0 v7 v8 mem) (fun r9 m10 => hv_b (f_X11_link v1 v2 m10) (fun r11 m12 => hv_b (f_X11_carries r11 r9 m12) (fun r13 m14 => hv_ret r13 m14)))))))))))))))
set_option maxRecDepth 100000 in
set_option maxHeartbeats 4000000 in
theorem cs_X11_goesTogether (d : Nat) (rf0 : Int → Int → hMem → hRs) (hrf0 : ∀ (x1 x2 : Int) (mem : hMem), hv_Met (d + 8) 0 0 0 yX11_goesTogether cX11_goesTogether 6 (some FieldType.int) (fun ad _ _ => [.ref (ad 65), .int (hv_I x1), .int (hv_I x2)]) mem (rf0 x1 x2 mem)) (x1 x2 : Int) (mem : hMem) : hv_Met (d + 1 + 8) 0 0 0 yX11_goesTogether cX11_goesTogether 6 (some FieldType.int) (fun ad _ _ => [.ref (ad 65), .int (hv_I x1), .int (hv_I x2)]) mem (fs_X11_goesTogether rf0 x1 x2 mem) := by
  refine hv_start (by decide +kernel) (fun _ _ _ => Nat.le_of_ble_eq_true rfl) ?_
  intro X hc
  have hc : hv_C X cX11_goesTogether 6 RX11 (some FieldType.int) (d + 1 + 8) 0 0 := hc
  show hv_R X 6 0 0 (hv_QX X 0 0 0) (fs_X11_goesTogether rf0 x1 x2 mem) mem [] [(0, .ref (hv_ad X 65)), (1, .int (hv_I x1)), (2, .int (hv_I x2))] [] 0
  unfold fs_X11_goesTogether
  refine hv_iload_n hc dX11_goesTogether_0 rfl (hv_m 1 rfl) ?_
  refine hv_if_lt (tgt := 8) hc dX11_goesTogether_1 (by decide) ?_ ?_
  · exact hv_pick [1, 2] rfl (g_X11_goesTogether_8 hc rf0 hrf0 x1 x2 mem)
  · refine hv_iload_n hc dX11_goesTogether_4 rfl (hv_m 2 rfl) ?_
    refine hv_if_ge (tgt := 18) hc dX11_goesTogether_5 (by decide) ?_ ?_
    · refine hv_aload_n hc dX11_goesTogether_18 rfl (hv_m 0 rfl) ?_
      refine hv_getR hc fl_X11_42 sh_o_65 rfl dX11_goesTogether_19 ?_
      refine hv_iload_n hc dX11_goesTogether_22 rfl (hv_m 1 rfl) ?_
      refine hv_iaload hc sh_a_75 (Nat.le_of_ble_eq_true rfl) dX11_goesTogether_23 (fun v1 => ?_)
      refine hv_istore_n (lv' := [(3, .int (hv_I v1)), (0, .ref (hv_ad X 65)), (1, .int (hv_I x1)), (2, .int (hv_I x2))]) hc dX11_goesTogether_24 rfl (by decide) rfl ?_
      refine hv_aload_n hc dX11_goesTogether_25 rfl (hv_m 1 rfl) ?_
      refine hv_getR hc fl_X11_42 sh_o_65 rfl dX11_goesTogether_26 ?_
      refine hv_iload_n hc dX11_goesTogether_29 rfl (hv_m 3 rfl) ?_
      refine hv_iaload hc sh_a_75 (Nat.le_of_ble_eq_true rfl) dX11_goesTogether_30 (fun v2 => ?_)
      refine hv_istore (lv' := [(4, .int (hv_I v2)), (3, .int (hv_I v1)), (0, .ref (hv_ad X 65)), (1, .int (hv_I x1)), (2, .int (hv_I x2))]) hc dX11_goesTogether_31 (by decide) rfl ?_
      refine hv_aload_n hc dX11_goesTogether_33 rfl (hv_m 2 rfl) ?_
      refine hv_getR hc fl_X11_29 sh_o_65 rfl dX11_goesTogether_34 ?_
      refine hv_iload_n hc dX11_goesTogether_37 rfl (hv_m 1 rfl) ?_
      refine hv_iaload hc sh_a_71 (Nat.le_of_ble_eq_true rfl) dX11_goesTogether_38 (fun v3 => ?_)
      refine hv_aload_n hc dX11_goesTogether_39 rfl (hv_m 2 rfl) ?_
      refine hv_getR hc fl_X11_29 sh_o_65 rfl dX11_goesTogether_40 ?_
      refine hv_iload hc dX11_goesTogether_43 (hv_m 0 rfl) ?_
      refine hv_iaload hc sh_a_71 (Nat.le_of_ble_eq_true rfl) dX11_goesTogether_45 (fun v4 => ?_)
      refine hv_icmp_ge (tgt := 66) hc dX11_goesTogether_46 (by decide) ?_ ?_
      · refine hv_aload_n hc dX11_goesTogether_66 rfl (hv_m 2 rfl) ?_
        refine hv_getR hc fl_X11_29 sh_o_65 rfl dX11_goesTogether_67 ?_
        refine hv_iload hc dX11_goesTogether_70 (hv_m 0 rfl) ?_
        refine hv_iaload hc sh_a_71 (Nat.le_of_ble_eq_true rfl) dX11_goesTogether_72 (fun v5 => ?_)
        refine hv_aload_n hc dX11_goesTogether_73 rfl (hv_m 2 rfl) ?_
        refine hv_getR hc fl_X11_29 sh_o_65 rfl dX11_goesTogether_74 ?_
        refine hv_iload_n hc dX11_goesTogether_77 rfl (hv_m 1 rfl) ?_
        refine hv_iaload hc sh_a_71 (Nat.le_of_ble_eq_true rfl) dX11_goesTogether_78 (fun v6 => ?_)
        refine hv_icmp_ge (tgt := 100) hc dX11_goesTogether_79 (by decide) ?_ ?_
        · refine hv_aload_n hc dX11_goesTogether_100 rfl (hv_m 2 rfl) ?_
          refine hv_aload_n hc dX11_goesTogether_101 rfl (hv_m 2 rfl) ?_
          refine hv_getR hc fl_X11_45 sh_o_65 rfl dX11_goesTogether_102 ?_
          refine hv_iload_n hc dX11_goesTogether_105 rfl (hv_m 3 rfl) ?_
          refine hv_iaload hc sh_a_76 (Nat.le_of_ble_eq_true rfl) dX11_goesTogether_106 (fun v7 => ?_)
          refine hv_aload_n hc dX11_goesTogether_107 rfl (hv_m 2 rfl) ?_
          refine hv_getR hc fl_X11_45 sh_o_65 rfl dX11_goesTogether_108 ?_
          refine hv_iload_n hc dX11_goesTogether_111 rfl (hv_m 4 rfl) ?_
          refine hv_iaload hc sh_a_76 (Nat.le_of_ble_eq_true rfl) dX11_goesTogether_112 (fun v8 => ?_)
          refine hv_callVi hc (hrf0 v7 v8 mem) yv_X11_goesTogether tw_1372 sh_o_65 rfl rfl rfl rfl (Nat.le_of_ble_eq_true rfl) (by omega) (Nat.zero_le _) (Nat.zero_le _) dX11_goesTogether_113 (fun r9 m10 => ?_)
          refine hv_istore (lv' := [(5, .int (hv_I r9)), (4, .int (hv_I v2)), (3, .int (hv_I v1)), (0, .ref (hv_ad X 65)), (1, .int (hv_I x1)), (2, .int (hv_I x2))]) hc dX11_goesTogether_116 (by decide) rfl ?_
          refine hv_aload_n hc dX11_goesTogether_118 rfl (hv_m 3 rfl) ?_
          refine hv_aload_n hc dX11_goesTogether_119 rfl (hv_m 3 rfl) ?_
          refine hv_iload_n hc dX11_goesTogether_120 rfl (hv_m 2 rfl) ?_
          refine hv_iload hc dX11_goesTogether_121 (hv_m 1 rfl) ?_
          refine hv_callVi hc (c_X11_link v1 v2 m10) yv_X11_link tw_1340 sh_o_65 rfl rfl rfl rfl (Nat.le_of_ble_eq_true rfl) (by omega) (Nat.zero_le _) (Nat.zero_le _) dX11_goesTogether_123 (fun r11 m12 => ?_)
          refine hv_iload hc dX11_goesTogether_126 (hv_m 0 rfl) ?_
          refine hv_callVi hc (c_X11_carries r11 r9 m12) yv_X11_carries tw_1352 sh_o_65 rfl rfl rfl rfl (Nat.le_of_ble_eq_true rfl) (by omega) (Nat.zero_le _) (Nat.zero_le _) dX11_goesTogether_128 (fun r13 m14 => ?_)
          exact hv_iret hc dX11_goesTogether_131
        · refine hv_aload_n hc dX11_goesTogether_82 rfl (hv_m 2 rfl) ?_
          refine hv_iload hc dX11_goesTogether_83 (hv_m 0 rfl) ?_
          refine hv_aload_n hc dX11_goesTogether_85 rfl (hv_m 2 rfl) ?_
          refine hv_iload_n hc dX11_goesTogether_86 rfl (hv_m 3 rfl) ?_
          refine hv_aload_n hc dX11_goesTogether_87 rfl (hv_m 2 rfl) ?_
          refine hv_getR hc fl_X11_45 sh_o_65 rfl dX11_goesTogether_88 ?_
          refine hv_iload_n hc dX11_goesTogether_91 rfl (hv_m 4 rfl) ?_
          refine hv_iaload hc sh_a_76 (Nat.le_of_ble_eq_true rfl) dX11_goesTogether_92 (fun v15 => ?_)
          refine hv_callVi hc (hrf0 x1 v15 mem) yv_X11_goesTogether tw_1372 sh_o_65 rfl rfl rfl rfl (Nat.le_of_ble_eq_true rfl) (by omega) (Nat.zero_le _) (Nat.zero_le _) dX11_goesTogether_93 (fun r16 m17 => ?_)
          refine hv_callVi hc (c_X11_ahead v2 r16 m17) yv_X11_ahead tw_1344 sh_o_65 rfl rfl rfl rfl (Nat.le_of_ble_eq_true rfl) (by omega) (Nat.zero_le _) (Nat.zero_le _) dX11_goesTogether_96 (fun r18 m19 => ?_)
          exact hv_iret hc dX11_goesTogether_99
      · refine hv_aload_n hc dX11_goesTogether_49 rfl (hv_m 2 rfl) ?_
        refine hv_iload_n hc dX11_goesTogether_50 rfl (hv_m 1 rfl) ?_
        refine hv_aload_n hc dX11_goesTogether_51 rfl (hv_m 2 rfl) ?_
        refine hv_aload_n hc dX11_goesTogether_52 rfl (hv_m 2 rfl) ?_
        refine hv_getR hc fl_X11_45 sh_o_65 rfl dX11_goesTogether_53 ?_
        refine hv_iload_n hc dX11_goesTogether_56 rfl (hv_m 3 rfl) ?_
        refine hv_iaload hc sh_a_76 (Nat.le_of_ble_eq_true rfl) dX11_goesTogether_57 (fun v20 => ?_)
        refine hv_iload_n hc dX11_goesTogether_58 rfl (hv_m 4 rfl) ?_
        refine hv_callVi hc (hrf0 v20 x2 mem) yv_X11_goesTogether tw_1372 sh_o_65 rfl rfl rfl rfl (Nat.le_of_ble_eq_true rfl) (by omega) (Nat.zero_le _) (Nat.zero_le _) dX11_goesTogether_59 (fun r21 m22 => ?_)
        refine hv_callVi hc (c_X11_ahead v1 r21 m22) yv_X11_ahead tw_1344 sh_o_65 rfl rfl rfl rfl (Nat.le_of_ble_eq_true rfl) (by omega) (Nat.zero_le _) (Nat.zero_le _) dX11_goesTogether_62 (fun r23 m24 => ?_)
        exact hv_iret hc dX11_goesTogether_65
    · exact hv_pick [1, 2] rfl (g_X11_goesTogether_8 hc rf0 hrf0 x1 x2 mem)
def rr_goes : Nat → Int → Int → hMem → hRs
  | 0 => fun _ _ _ => none
  | d + 1 => fun x1 x2 mem => fs_X11_goesTogether (rr_goes d) x1 x2 mem
theorem cr_goes : ∀ d : Nat, (∀ (x1 x2 : Int) (mem : hMem), hv_Met (d + 8) 0 0 0 yX11_goesTogether cX11_goesTogether 6 (some FieldType.int) (fun ad _ _ => [.ref (ad 65), .int (hv_I x1), .int (hv_I x2)]) mem (rr_goes d x1 x2 mem)) := by
  intro d
  induction d with
  | zero => exact fun x1 x2 mem l D ca ad ak av sz r m' ht => by cases ht
  | succ d ih => exact fun x1 x2 mem => cs_X11_goesTogether d _ ih x1 x2 mem
def f_X11_goesTogether (x1 x2 : Int) (mem : hMem) : hRs := rr_goes 64 x1 x2 mem
theorem c_X11_goesTogether (x1 x2 : Int) (mem : hMem) : hv_Met 72 0 0 0 yX11_goesTogether cX11_goesTogether 6 (some FieldType.int) (fun ad _ _ => [.ref (ad 65), .int (hv_I x1), .int (hv_I x2)]) mem (f_X11_goesTogether x1 x2 mem) := (cr_goes 64) x1 x2 mem
def f_X11_merges (x1 x2 : Int) (mem : hMem) : hRs := hv_b (f_X11_settled x1 mem) (fun r1 m2 => hv_b (f_X11_settled x2 m2) (fun r3 m4 => hv_b (f_X11_goesTogether r1 r3 m4) (fun r5 m6 => hv_ret r5 m6)))
set_option maxRecDepth 100000 in
set_option maxHeartbeats 4000000 in
theorem c_X11_merges (x1 x2 : Int) (mem : hMem) : hv_Met 73 0 0 0 yX11_merges cX11_merges 4 (some FieldType.int) (fun ad _ _ => [.ref (ad 65), .int (hv_I x1), .int (hv_I x2)]) mem (f_X11_merges x1 x2 mem) := by
  refine hv_start (by decide +kernel) (fun _ _ _ => Nat.le_of_ble_eq_true rfl) ?_
  intro X hc
  have hc : hv_C X cX11_merges 4 RX11 (some FieldType.int) 73 0 0 := hc
  show hv_R X 4 0 0 (hv_QX X 0 0 0) (f_X11_merges x1 x2 mem) mem [] [(0, .ref (hv_ad X 65)), (1, .int (hv_I x1)), (2, .int (hv_I x2))] [] 0
  unfold f_X11_merges
  refine hv_aload_n hc dX11_merges_0 rfl (hv_m 0 rfl) ?_
  refine hv_iload_n hc dX11_merges_1 rfl (hv_m 1 rfl) ?_
  refine hv_callVi hc (c_X11_settled x1 mem) yv_X11_settled tw_1368 sh_o_65 rfl rfl rfl rfl (Nat.le_of_ble_eq_true rfl) (Nat.le_of_ble_eq_true rfl) (Nat.zero_le _) (Nat.zero_le _) dX11_merges_2 (fun r1 m2 => ?_)
  refine hv_istore_n (lv' := [(3, .int (hv_I r1)), (0, .ref (hv_ad X 65)), (1, .int (hv_I x1)), (2, .int (hv_I x2))]) hc dX11_merges_5 rfl (by decide) rfl ?_
  refine hv_aload_n hc dX11_merges_6 rfl (hv_m 1 rfl) ?_
  refine hv_iload_n hc dX11_merges_7 rfl (hv_m 0 rfl) ?_
  refine hv_aload_n hc dX11_merges_8 rfl (hv_m 1 rfl) ?_
  refine hv_iload_n hc dX11_merges_9 rfl (hv_m 3 rfl) ?_
  refine hv_callVi hc (c_X11_settled x2 m2) yv_X11_settled tw_1368 sh_o_65 rfl rfl rfl rfl (Nat.le_of_ble_eq_true rfl) (Nat.le_of_ble_eq_true rfl) (Nat.zero_le _) (Nat.zero_le _) dX11_merges_10 (fun r3 m4 => ?_)
  refine hv_callVi hc (c_X11_goesTogether r1 r3 m4) yv_X11_goesTogether tw_1372 sh_o_65 rfl rfl rfl rfl (Nat.le_of_ble_eq_true rfl) (Nat.le_of_ble_eq_true rfl) (Nat.zero_le _) (Nat.zero_le _) dX11_merges_13 (fun r5 m6 => ?_)
  exact hv_iret hc dX11_merges_16
def B_X11_takes_162 (R162 : Int → Int → Int → Int → hMem → hRs) (x1 x4 x6 x7 : Int) (mem : hMem) : hRs := hv_lt x7 0 (hv_ald mem 72 8000 x4 (fun v1 => hv_ald mem 69 8000 v1 (fun v2 => hv_ald mem 70 8000 v1 (fun v3 => hv_b (f_X11_merges v3 x6 mem) (fun r4 m5 => hv_b (f_X11_heap v2 r4 m5) (fun r6 m7 => hv_ret r6 m7)))))) (hv_ald mem 75 40000 x7 (fun v8 => hv_b (f_X11_sets x1 v8 x6 mem) (fun r9 m10 => hv_ald m10 76 40000 x7 (fun v11 => R162 x1 x4 r9 v11 m10))))
def L_X11_takes_162 : Nat → Int → Int → Int → Int → hMem → hRs
  | 0 => fun _ _ _ _ _ => none
  | n + 1 => B_X11_takes_162 (L_X11_takes_162 n)
set_option maxRecDepth 100000 in
theorem gB_X11_takes_162 {X : hv_X} (hc : hv_C X cX11_takes 8 RX11 (some FieldType.int) 74 0 0) (R162 : Int → Int → Int → Int → hMem → hRs) (hR162 : ∀ (x1 x4 x6 x7 : Int) (mem : hMem), hv_R X 8 0 0 (hv_QX X 0 0 0) (R162 x1 x4 x6 x7 mem) mem [] [(0, .ref (hv_ad X 65)), (1, .int (hv_I x1)), (4, .int (hv_I x4)), (6, .int (hv_I x6)), (7, .int (hv_I x7))] [] 162) (x1 x4 x6 x7 : Int) (mem : hMem) : hv_R X 8 0 0 (hv_QX X 0 0 0) (B_X11_takes_162 R162 x1 x4 x6 x7 mem) mem [] [(0, .ref (hv_ad X 65)), (1, .int (hv_I x1)), (4, .int (hv_I x4)), (6, .int (hv_I x6)), (7, .int (hv_I x7))] [] 162 := by
  unfold B_X11_takes_162
  refine hv_iload hc dX11_takes_162 (hv_m 4 rfl) ?_
  refine hv_if_lt (tgt := 195) hc dX11_takes_164 (by decide) ?_ ?_
  · refine hv_aload_n hc dX11_takes_195 rfl (hv_m 0 rfl) ?_
    refine hv_getR hc fl_X11_32 sh_o_65 rfl dX11_takes_196 ?_
    refine hv_iload hc dX11_takes_199 (hv_m 2 rfl) ?_
    refine hv_iaload hc sh_a_72 (Nat.le_of_ble_eq_true rfl) dX11_takes_201 (fun v1 => ?_)
    refine hv_istore (lv' := [(7, .int (hv_I v1)), (0, .ref (hv_ad X 65)), (1, .int (hv_I x1)), (4, .int (hv_I x4)), (6, .int (hv_I x6))]) hc dX11_takes_202 (by decide) rfl ?_
    refine hv_aload_n hc dX11_takes_204 rfl (hv_m 1 rfl) ?_
    refine hv_aload_n hc dX11_takes_205 rfl (hv_m 1 rfl) ?_
    refine hv_getR hc fl_X11_23 sh_o_65 rfl dX11_takes_206 ?_
    refine hv_iload hc dX11_takes_209 (hv_m 0 rfl) ?_
    refine hv_iaload hc sh_a_69 (Nat.le_of_ble_eq_true rfl) dX11_takes_211 (fun v2 => ?_)
    refine hv_aload_n hc dX11_takes_212 rfl (hv_m 1 rfl) ?_
    refine hv_aload_n hc dX11_takes_213 rfl (hv_m 1 rfl) ?_
    refine hv_getR hc fl_X11_26 sh_o_65 rfl dX11_takes_214 ?_
    refine hv_iload hc dX11_takes_217 (hv_m 0 rfl) ?_
    refine hv_iaload hc sh_a_70 (Nat.le_of_ble_eq_true rfl) dX11_takes_219 (fun v3 => ?_)
    refine hv_iload hc dX11_takes_220 (hv_m 4 rfl) ?_
    refine hv_callVi hc (c_X11_merges v3 x6 mem) yv_X11_merges tw_1364 sh_o_65 rfl rfl rfl rfl (Nat.le_of_ble_eq_true rfl) (Nat.le_of_ble_eq_true rfl) (Nat.zero_le _) (Nat.zero_le _) dX11_takes_222 (fun r4 m5 => ?_)
    refine hv_callVi hc (c_X11_heap v2 r4 m5) yv_X11_heap tw_1320 sh_o_65 rfl rfl rfl rfl (Nat.le_of_ble_eq_true rfl) (Nat.le_of_ble_eq_true rfl) (Nat.zero_le _) (Nat.zero_le _) dX11_takes_225 (fun r6 m7 => ?_)
    exact hv_iret hc dX11_takes_228
  · refine hv_aload_n hc dX11_takes_167 rfl (hv_m 0 rfl) ?_
    refine hv_iload_n hc dX11_takes_168 rfl (hv_m 1 rfl) ?_
    refine hv_aload_n hc dX11_takes_169 rfl (hv_m 0 rfl) ?_
    refine hv_getR hc fl_X11_42 sh_o_65 rfl dX11_takes_170 ?_
    refine hv_iload hc dX11_takes_173 (hv_m 4 rfl) ?_
    refine hv_iaload hc sh_a_75 (Nat.le_of_ble_eq_true rfl) dX11_takes_175 (fun v8 => ?_)
    refine hv_iload hc dX11_takes_176 (hv_m 3 rfl) ?_
    refine hv_callVi hc (c_X11_sets x1 v8 x6 mem) yv_X11_sets tw_1336 sh_o_65 rfl rfl rfl rfl (Nat.le_of_ble_eq_true rfl) (Nat.le_of_ble_eq_true rfl) (Nat.zero_le _) (Nat.zero_le _) dX11_takes_178 (fun r9 m10 => ?_)
    refine hv_istore (lv' := [(6, .int (hv_I r9)), (0, .ref (hv_ad X 65)), (1, .int (hv_I x1)), (4, .int (hv_I x4)), (7, .int (hv_I x7))]) hc dX11_takes_181 (by decide) rfl ?_
    refine hv_aload_n hc dX11_takes_183 rfl (hv_m 1 rfl) ?_
    refine hv_getR hc fl_X11_45 sh_o_65 rfl dX11_takes_184 ?_
    refine hv_iload hc dX11_takes_187 (hv_m 4 rfl) ?_
    refine hv_iaload hc sh_a_76 (Nat.le_of_ble_eq_true rfl) dX11_takes_189 (fun v11 => ?_)
    refine hv_istore (lv' := [(7, .int (hv_I v11)), (6, .int (hv_I r9)), (0, .ref (hv_ad X 65)), (1, .int (hv_I x1)), (4, .int (hv_I x4))]) hc dX11_takes_190 (by decide) rfl ?_
    refine hv_goto (tgt := 162) hc dX11_takes_192 (by decide) ?_
    exact hv_pick [2, 3, 4, 1, 0] rfl (hR162 x1 x4 r9 v11 m10)
theorem g_X11_takes_162 {X : hv_X} (hc : hv_C X cX11_takes 8 RX11 (some FieldType.int) 74 0 0) : ∀ (n : Nat) (x1 x4 x6 x7 : Int) (mem : hMem), hv_R X 8 0 0 (hv_QX X 0 0 0) (L_X11_takes_162 n x1 x4 x6 x7 mem) mem [] [(0, .ref (hv_ad X 65)), (1, .int (hv_I x1)), (4, .int (hv_I x4)), (6, .int (hv_I x6)), (7, .int (hv_I x7))] [] 162 := by
  intro n
  induction n with
  | zero => intros; exact hv_none
  | succ n ih => exact gB_X11_takes_162 hc _ ih
def B_X11_takes_106 (R106 : Int → Int → Int → Int → Int → hMem → hRs) (x1 x3 x4 x5 x6 : Int) (mem : hMem) : hRs := hv_lt x6 0 (hv_b (f_X11_withoutFirst x3 x4 mem) (fun r1 m2 => hv_b (f_X11_merges x5 r1 m2) (fun r3 m4 => hv_ald m4 73 8000 x4 (fun v5 => L_X11_takes_162 hv_FU x1 x4 r3 v5 m4)))) (hv_ald mem 75 40000 x6 (fun v6 => hv_b (f_X11_ahead v6 x5 mem) (fun r7 m8 => hv_ald m8 76 40000 x6 (fun v9 => R106 x1 x3 x4 r7 v9 m8))))
def L_X11_takes_106 : Nat → Int → Int → Int → Int → Int → hMem → hRs
  | 0 => fun _ _ _ _ _ _ => none
  | n + 1 => B_X11_takes_106 (L_X11_takes_106 n)
set_option maxRecDepth 100000 in
theorem gB_X11_takes_106 {X : hv_X} (hc : hv_C X cX11_takes 8 RX11 (some FieldType.int) 74 0 0) (R106 : Int → Int → Int → Int → Int → hMem → hRs) (hR106 : ∀ (x1 x3 x4 x5 x6 : Int) (mem : hMem), hv_R X 8 0 0 (hv_QX X 0 0 0) (R106 x1 x3 x4 x5 x6 mem) mem [] [(0, .ref (hv_ad X 65)), (1, .int (hv_I x1)), (3, .int (hv_I x3)), (4, .int (hv_I x4)), (5, .int (hv_I x5)), (6, .int (hv_I x6))] [] 106) (x1 x3 x4 x5 x6 : Int) (mem : hMem) : hv_R X 8 0 0 (hv_QX X 0 0 0) (B_X11_takes_106 R106 x1 x3 x4 x5 x6 mem) mem [] [(0, .ref (hv_ad X 65)), (1, .int (hv_I x1)), (3, .int (hv_I x3)), (4, .int (hv_I x4)), (5, .int (hv_I x5)), (6, .int (hv_I x6))] [] 106 := by
  unfold B_X11_takes_106
  refine hv_iload hc dX11_takes_106 (hv_m 5 rfl) ?_
  refine hv_if_lt (tgt := 138) hc dX11_takes_108 (by decide) ?_ ?_
  · refine hv_aload_n hc dX11_takes_138 rfl (hv_m 0 rfl) ?_
    refine hv_iload hc dX11_takes_139 (hv_m 4 rfl) ?_
    refine hv_aload_n hc dX11_takes_141 rfl (hv_m 0 rfl) ?_
    refine hv_iload_n hc dX11_takes_142 rfl (hv_m 2 rfl) ?_
    refine hv_iload hc dX11_takes_143 (hv_m 3 rfl) ?_
    refine hv_callVi hc (c_X11_withoutFirst x3 x4 mem) yv_X11_withoutFirst tw_1360 sh_o_65 rfl rfl rfl rfl (Nat.le_of_ble_eq_true rfl) (Nat.le_of_ble_eq_true rfl) (Nat.zero_le _) (Nat.zero_le _) dX11_takes_145 (fun r1 m2 => ?_)
    refine hv_callVi hc (c_X11_merges x5 r1 m2) yv_X11_merges tw_1364 sh_o_65 rfl rfl rfl rfl (Nat.le_of_ble_eq_true rfl) (Nat.le_of_ble_eq_true rfl) (Nat.zero_le _) (Nat.zero_le _) dX11_takes_148 (fun r3 m4 => ?_)
    refine hv_istore (lv' := [(6, .int (hv_I r3)), (0, .ref (hv_ad X 65)), (1, .int (hv_I x1)), (3, .int (hv_I x3)), (4, .int (hv_I x4)), (5, .int (hv_I x5))]) hc dX11_takes_151 (by decide) rfl ?_
    refine hv_aload_n hc dX11_takes_153 rfl (hv_m 1 rfl) ?_
    refine hv_getR hc fl_X11_35 sh_o_65 rfl dX11_takes_154 ?_
    refine hv_iload hc dX11_takes_157 (hv_m 4 rfl) ?_
    refine hv_iaload hc sh_a_73 (Nat.le_of_ble_eq_true rfl) dX11_takes_159 (fun v5 => ?_)
    refine hv_istore (lv' := [(7, .int (hv_I v5)), (6, .int (hv_I r3)), (0, .ref (hv_ad X 65)), (1, .int (hv_I x1)), (3, .int (hv_I x3)), (4, .int (hv_I x4)), (5, .int (hv_I x5))]) hc dX11_takes_160 (by decide) rfl ?_
    exact hv_pick [2, 3, 5, 1, 0] rfl (g_X11_takes_162 hc hv_FU x1 x4 r3 v5 m4)
  · refine hv_aload_n hc dX11_takes_111 rfl (hv_m 0 rfl) ?_
    refine hv_aload_n hc dX11_takes_112 rfl (hv_m 0 rfl) ?_
    refine hv_getR hc fl_X11_42 sh_o_65 rfl dX11_takes_113 ?_
    refine hv_iload hc dX11_takes_116 (hv_m 5 rfl) ?_
    refine hv_iaload hc sh_a_75 (Nat.le_of_ble_eq_true rfl) dX11_takes_118 (fun v6 => ?_)
    refine hv_iload hc dX11_takes_119 (hv_m 4 rfl) ?_
    refine hv_callVi hc (c_X11_ahead v6 x5 mem) yv_X11_ahead tw_1344 sh_o_65 rfl rfl rfl rfl (Nat.le_of_ble_eq_true rfl) (Nat.le_of_ble_eq_true rfl) (Nat.zero_le _) (Nat.zero_le _) dX11_takes_121 (fun r7 m8 => ?_)
    refine hv_istore (lv' := [(5, .int (hv_I r7)), (0, .ref (hv_ad X 65)), (1, .int (hv_I x1)), (3, .int (hv_I x3)), (4, .int (hv_I x4)), (6, .int (hv_I x6))]) hc dX11_takes_124 (by decide) rfl ?_
    refine hv_aload_n hc dX11_takes_126 rfl (hv_m 1 rfl) ?_
    refine hv_getR hc fl_X11_45 sh_o_65 rfl dX11_takes_127 ?_
    refine hv_iload hc dX11_takes_130 (hv_m 5 rfl) ?_
    refine hv_iaload hc sh_a_76 (Nat.le_of_ble_eq_true rfl) dX11_takes_132 (fun v9 => ?_)
    refine hv_istore (lv' := [(6, .int (hv_I v9)), (5, .int (hv_I r7)), (0, .ref (hv_ad X 65)), (1, .int (hv_I x1)), (3, .int (hv_I x3)), (4, .int (hv_I x4))]) hc dX11_takes_133 (by decide) rfl ?_
    refine hv_goto (tgt := 106) hc dX11_takes_135 (by decide) ?_
    exact hv_pick [2, 3, 4, 5, 1, 0] rfl (hR106 x1 x3 x4 r7 v9 m8)
theorem g_X11_takes_106 {X : hv_X} (hc : hv_C X cX11_takes 8 RX11 (some FieldType.int) 74 0 0) : ∀ (n : Nat) (x1 x3 x4 x5 x6 : Int) (mem : hMem), hv_R X 8 0 0 (hv_QX X 0 0 0) (L_X11_takes_106 n x1 x3 x4 x5 x6 mem) mem [] [(0, .ref (hv_ad X 65)), (1, .int (hv_I x1)), (3, .int (hv_I x3)), (4, .int (hv_I x4)), (5, .int (hv_I x5)), (6, .int (hv_I x6))] [] 106 := by
  intro n
  induction n with
  | zero => intros; exact hv_none
  | succ n ih => exact gB_X11_takes_106 hc _ ih
def J_X11_takes_80 (R37 : Int → Int → Int → Int → hMem → hRs) (x1 x3 x5 s0 : Int) (mem : hMem) : hRs := hv_ald mem 76 40000 x5 (fun v1 => R37 x1 x3 s0 v1 mem)
set_option maxRecDepth 100000 in
theorem g_X11_takes_80 {X : hv_X} (hc : hv_C X cX11_takes 8 RX11 (some FieldType.int) 74 0 0) (R37 : Int → Int → Int → Int → hMem → hRs) (hR37 : ∀ (x1 x3 x4 x5 : Int) (mem : hMem), hv_R X 8 0 0 (hv_QX X 0 0 0) (R37 x1 x3 x4 x5 mem) mem [] [(0, .ref (hv_ad X 65)), (1, .int (hv_I x1)), (3, .int (hv_I x3)), (4, .int (hv_I x4)), (5, .int (hv_I x5))] [] 37) (x1 x3 x5 s0 : Int) (mem : hMem) : hv_R X 8 0 0 (hv_QX X 0 0 0) (J_X11_takes_80 R37 x1 x3 x5 s0 mem) mem [] [(0, .ref (hv_ad X 65)), (1, .int (hv_I x1)), (3, .int (hv_I x3)), (5, .int (hv_I x5))] [.int (hv_I s0)] 80 := by
  unfold J_X11_takes_80
  refine hv_istore (lv' := [(4, .int (hv_I s0)), (0, .ref (hv_ad X 65)), (1, .int (hv_I x1)), (3, .int (hv_I x3)), (5, .int (hv_I x5))]) hc dX11_takes_80 (by decide) rfl ?_
  refine hv_aload_n hc dX11_takes_82 rfl (hv_m 1 rfl) ?_
  refine hv_getR hc fl_X11_45 sh_o_65 rfl dX11_takes_83 ?_
  refine hv_iload hc dX11_takes_86 (hv_m 4 rfl) ?_
  refine hv_iaload hc sh_a_76 (Nat.le_of_ble_eq_true rfl) dX11_takes_88 (fun v1 => ?_)
  refine hv_istore (lv' := [(5, .int (hv_I v1)), (4, .int (hv_I s0)), (0, .ref (hv_ad X 65)), (1, .int (hv_I x1)), (3, .int (hv_I x3))]) hc dX11_takes_89 (by decide) rfl ?_
  refine hv_goto (tgt := 37) hc dX11_takes_91 (by decide) ?_
  exact hv_pick [2, 3, 4, 1, 0] rfl (hR37 x1 x3 s0 v1 mem)
def B_X11_takes_37 (R37 : Int → Int → Int → Int → hMem → hRs) (x1 x3 x4 x5 : Int) (mem : hMem) : hRs := hv_lt x5 0 (hv_ald mem 74 8000 x4 (fun v1 => L_X11_takes_106 hv_FU x1 x3 x4 ((-1)) v1 mem)) (hv_ald mem 75 40000 x5 (fun v2 => hv_ald mem 72 8000 v2 (fun v3 => hv_ald mem 72 8000 x4 (fun v4 => hv_b (f_X11_isLess v3 v4 mem) (fun r5 m6 => hv_eq r5 0 (J_X11_takes_80 R37 x1 x3 x5 x4 m6) (hv_ald m6 75 40000 x5 (fun v7 => J_X11_takes_80 R37 x1 x3 x5 v7 m6)))))))
def L_X11_takes_37 : Nat → Int → Int → Int → Int → hMem → hRs
  | 0 => fun _ _ _ _ _ => none
  | n + 1 => B_X11_takes_37 (L_X11_takes_37 n)
set_option maxRecDepth 100000 in
theorem gB_X11_takes_37 {X : hv_X} (hc : hv_C X cX11_takes 8 RX11 (some FieldType.int) 74 0 0) (R37 : Int → Int → Int → Int → hMem → hRs) (hR37 : ∀ (x1 x3 x4 x5 : Int) (mem : hMem), hv_R X 8 0 0 (hv_QX X 0 0 0) (R37 x1 x3 x4 x5 mem) mem [] [(0, .ref (hv_ad X 65)), (1, .int (hv_I x1)), (3, .int (hv_I x3)), (4, .int (hv_I x4)), (5, .int (hv_I x5))] [] 37) (x1 x3 x4 x5 : Int) (mem : hMem) : hv_R X 8 0 0 (hv_QX X 0 0 0) (B_X11_takes_37 R37 x1 x3 x4 x5 mem) mem [] [(0, .ref (hv_ad X 65)), (1, .int (hv_I x1)), (3, .int (hv_I x3)), (4, .int (hv_I x4)), (5, .int (hv_I x5))] [] 37 := by
  unfold B_X11_takes_37
  refine hv_iload hc dX11_takes_37 (hv_m 4 rfl) ?_
  refine hv_if_lt (tgt := 94) hc dX11_takes_39 (by decide) ?_ ?_
  · refine hv_iconst hc dX11_takes_94 ?_
    refine hv_istore (lv' := [(5, .int (hv_I ((-1)))), (0, .ref (hv_ad X 65)), (1, .int (hv_I x1)), (3, .int (hv_I x3)), (4, .int (hv_I x4))]) hc dX11_takes_95 (by decide) rfl ?_
    refine hv_aload_n hc dX11_takes_97 rfl (hv_m 1 rfl) ?_
    refine hv_getR hc fl_X11_38 sh_o_65 rfl dX11_takes_98 ?_
    refine hv_iload hc dX11_takes_101 (hv_m 4 rfl) ?_
    refine hv_iaload hc sh_a_74 (Nat.le_of_ble_eq_true rfl) dX11_takes_103 (fun v1 => ?_)
    refine hv_istore (lv' := [(6, .int (hv_I v1)), (5, .int (hv_I ((-1)))), (0, .ref (hv_ad X 65)), (1, .int (hv_I x1)), (3, .int (hv_I x3)), (4, .int (hv_I x4))]) hc dX11_takes_104 (by decide) rfl ?_
    exact hv_pick [2, 3, 4, 5, 1, 0] rfl (g_X11_takes_106 hc hv_FU x1 x3 x4 ((-1)) v1 mem)
  · refine hv_aload_n hc dX11_takes_42 rfl (hv_m 0 rfl) ?_
    refine hv_aload_n hc dX11_takes_43 rfl (hv_m 0 rfl) ?_
    refine hv_getR hc fl_X11_32 sh_o_65 rfl dX11_takes_44 ?_
    refine hv_aload_n hc dX11_takes_47 rfl (hv_m 0 rfl) ?_
    refine hv_getR hc fl_X11_42 sh_o_65 rfl dX11_takes_48 ?_
    refine hv_iload hc dX11_takes_51 (hv_m 4 rfl) ?_
    refine hv_iaload hc sh_a_75 (Nat.le_of_ble_eq_true rfl) dX11_takes_53 (fun v2 => ?_)
    refine hv_iaload hc sh_a_72 (Nat.le_of_ble_eq_true rfl) dX11_takes_54 (fun v3 => ?_)
    refine hv_aload_n hc dX11_takes_55 rfl (hv_m 0 rfl) ?_
    refine hv_getR hc fl_X11_32 sh_o_65 rfl dX11_takes_56 ?_
    refine hv_iload hc dX11_takes_59 (hv_m 3 rfl) ?_
    refine hv_iaload hc sh_a_72 (Nat.le_of_ble_eq_true rfl) dX11_takes_61 (fun v4 => ?_)
    refine hv_callVi hc (c_X11_isLess v3 v4 mem) yv_X11_isLess tw_1328 sh_o_65 rfl rfl rfl rfl (Nat.le_of_ble_eq_true rfl) (Nat.le_of_ble_eq_true rfl) (Nat.zero_le _) (Nat.zero_le _) dX11_takes_62 (fun r5 m6 => ?_)
    refine hv_if_eq (tgt := 78) hc dX11_takes_65 (by decide) ?_ ?_
    · refine hv_iload hc dX11_takes_78 (hv_m 3 rfl) ?_
      exact hv_pick [0, 1, 2, 4] rfl (g_X11_takes_80 hc R37 hR37 x1 x3 x5 x4 m6)
    · refine hv_aload_n hc dX11_takes_68 rfl (hv_m 0 rfl) ?_
      refine hv_getR hc fl_X11_42 sh_o_65 rfl dX11_takes_69 ?_
      refine hv_iload hc dX11_takes_72 (hv_m 4 rfl) ?_
      refine hv_iaload hc sh_a_75 (Nat.le_of_ble_eq_true rfl) dX11_takes_74 (fun v7 => ?_)
      refine hv_goto (tgt := 80) hc dX11_takes_75 (by decide) ?_
      exact hv_pick [0, 1, 2, 4] rfl (g_X11_takes_80 hc R37 hR37 x1 x3 x5 v7 m6)
theorem g_X11_takes_37 {X : hv_X} (hc : hv_C X cX11_takes 8 RX11 (some FieldType.int) 74 0 0) : ∀ (n : Nat) (x1 x3 x4 x5 : Int) (mem : hMem), hv_R X 8 0 0 (hv_QX X 0 0 0) (L_X11_takes_37 n x1 x3 x4 x5 mem) mem [] [(0, .ref (hv_ad X 65)), (1, .int (hv_I x1)), (3, .int (hv_I x3)), (4, .int (hv_I x4)), (5, .int (hv_I x5))] [] 37 := by
  intro n
  induction n with
  | zero => intros; exact hv_none
  | succ n ih => exact gB_X11_takes_37 hc _ ih
def J_X11_takes_14 (x1 s0 : Int) (mem : hMem) : hRs := hv_lt s0 0 (hv_ret ((-1)) mem) (hv_ald mem 75 40000 s0 (fun v1 => hv_ald mem 76 40000 s0 (fun v2 => L_X11_takes_37 hv_FU x1 s0 v1 v2 mem)))
set_option maxRecDepth 100000 in
theorem g_X11_takes_14 {X : hv_X} (hc : hv_C X cX11_takes 8 RX11 (some FieldType.int) 74 0 0) (x1 s0 : Int) (mem : hMem) : hv_R X 8 0 0 (hv_QX X 0 0 0) (J_X11_takes_14 x1 s0 mem) mem [] [(0, .ref (hv_ad X 65)), (1, .int (hv_I x1))] [.int (hv_I s0)] 14 := by
  unfold J_X11_takes_14
  refine hv_istore_n (lv' := [(3, .int (hv_I s0)), (0, .ref (hv_ad X 65)), (1, .int (hv_I x1))]) hc dX11_takes_14 rfl (by decide) rfl ?_
  refine hv_iload_n hc dX11_takes_15 rfl (hv_m 0 rfl) ?_
  refine hv_if_ge (tgt := 21) hc dX11_takes_16 (by decide) ?_ ?_
  · refine hv_aload_n hc dX11_takes_21 rfl (hv_m 1 rfl) ?_
    refine hv_getR hc fl_X11_42 sh_o_65 rfl dX11_takes_22 ?_
    refine hv_iload_n hc dX11_takes_25 rfl (hv_m 0 rfl) ?_
    refine hv_iaload hc sh_a_75 (Nat.le_of_ble_eq_true rfl) dX11_takes_26 (fun v1 => ?_)
    refine hv_istore (lv' := [(4, .int (hv_I v1)), (3, .int (hv_I s0)), (0, .ref (hv_ad X 65)), (1, .int (hv_I x1))]) hc dX11_takes_27 (by decide) rfl ?_
    refine hv_aload_n hc dX11_takes_29 rfl (hv_m 2 rfl) ?_
    refine hv_getR hc fl_X11_45 sh_o_65 rfl dX11_takes_30 ?_
    refine hv_iload_n hc dX11_takes_33 rfl (hv_m 1 rfl) ?_
    refine hv_iaload hc sh_a_76 (Nat.le_of_ble_eq_true rfl) dX11_takes_34 (fun v2 => ?_)
    refine hv_istore (lv' := [(5, .int (hv_I v2)), (4, .int (hv_I v1)), (3, .int (hv_I s0)), (0, .ref (hv_ad X 65)), (1, .int (hv_I x1))]) hc dX11_takes_35 (by decide) rfl ?_
    exact hv_pick [3, 4, 2, 1, 0] rfl (g_X11_takes_37 hc hv_FU x1 s0 v1 v2 mem)
  · refine hv_iconst hc dX11_takes_19 ?_
    exact hv_iret hc dX11_takes_20
def f_X11_takes (x1 x2 : Int) (mem : hMem) : hRs := hv_lt x2 0 (J_X11_takes_14 x1 ((-1)) mem) (hv_ald mem 70 8000 x2 (fun v1 => J_X11_takes_14 x1 v1 mem))
set_option maxRecDepth 100000 in
set_option maxHeartbeats 4000000 in
theorem c_X11_takes (x1 x2 : Int) (mem : hMem) : hv_Met 74 0 0 0 yX11_takes cX11_takes 8 (some FieldType.int) (fun ad _ _ => [.ref (ad 65), .int (hv_I x1), .int (hv_I x2)]) mem (f_X11_takes x1 x2 mem) := by
  refine hv_start (by decide +kernel) (fun _ _ _ => Nat.le_of_ble_eq_true rfl) ?_
  intro X hc
  have hc : hv_C X cX11_takes 8 RX11 (some FieldType.int) 74 0 0 := hc
  show hv_R X 8 0 0 (hv_QX X 0 0 0) (f_X11_takes x1 x2 mem) mem [] [(0, .ref (hv_ad X 65)), (1, .int (hv_I x1)), (2, .int (hv_I x2))] [] 0
  unfold f_X11_takes
  refine hv_iload_n hc dX11_takes_0 rfl (hv_m 2 rfl) ?_
  refine hv_if_ge (tgt := 8) hc dX11_takes_1 (by decide) ?_ ?_
  · refine hv_aload_n hc dX11_takes_8 rfl (hv_m 0 rfl) ?_
    refine hv_getR hc fl_X11_26 sh_o_65 rfl dX11_takes_9 ?_
    refine hv_iload_n hc dX11_takes_12 rfl (hv_m 2 rfl) ?_
    refine hv_iaload hc sh_a_70 (Nat.le_of_ble_eq_true rfl) dX11_takes_13 (fun v1 => ?_)
    exact hv_pick [0, 1] rfl (g_X11_takes_14 hc x1 v1 mem)
  · refine hv_iconst hc dX11_takes_4 ?_
    refine hv_goto (tgt := 14) hc dX11_takes_5 (by decide) ?_
    exact hv_pick [0, 1] rfl (g_X11_takes_14 hc x1 ((-1)) mem)
def J_X11_makesAll_193 (R17 : Int → Int → Int → hMem → hRs) (x1 x2 x3 : Int) (mem : hMem) : hRs := hv_ast mem 78 30 x3 (mem 65 22) (fun m1 => hv_set (x3 + 1) (fun y2 => R17 x1 x2 y2 m1))
set_option maxRecDepth 100000 in
theorem g_X11_makesAll_193 {X : hv_X} (hc : hv_C X cX11_makesAll 5 RX11 (none) 75 0 0) (R17 : Int → Int → Int → hMem → hRs) (hR17 : ∀ (x1 x2 x3 : Int) (mem : hMem), hv_R X 5 0 0 (hv_QX X 1 0 0) (R17 x1 x2 x3 mem) mem [] [(0, .ref (hv_ad X 65)), (1, .int (hv_I x1)), (2, .int (hv_I x2)), (3, .int (hv_I x3))] [] 17) (x1 x2 x3 : Int) (mem : hMem) : hv_R X 5 0 0 (hv_QX X 1 0 0) (J_X11_makesAll_193 R17 x1 x2 x3 mem) mem [] [(0, .ref (hv_ad X 65)), (1, .int (hv_I x1)), (2, .int (hv_I x2)), (3, .int (hv_I x3))] [] 193 := by
  unfold J_X11_makesAll_193
  refine hv_aload_n hc dX11_makesAll_193 rfl (hv_m 0 rfl) ?_
  refine hv_getR hc fl_X11_51 sh_o_65 rfl dX11_makesAll_194 ?_
  refine hv_iload_n hc dX11_makesAll_197 rfl (hv_m 3 rfl) ?_
  refine hv_aload_n hc dX11_makesAll_198 rfl (hv_m 0 rfl) ?_
  refine hv_getI hc fl_X11_198 sh_o_65 rfl dX11_makesAll_199 ?_
  refine hv_iastore hc sh_a_78 (Nat.le_of_ble_eq_true rfl) dX11_makesAll_202 (fun m1 => ?_)
  refine hv_iinc_s (lvf := fun y2 => [(3, .int (hv_I y2)), (0, .ref (hv_ad X 65)), (1, .int (hv_I x1)), (2, .int (hv_I x2))]) hc dX11_makesAll_203 (by decide) (hv_m 3 rfl) (fun _ => rfl) (fun y2 => ?_)
  refine hv_goto (tgt := 17) hc dX11_makesAll_206 (by decide) ?_
  exact hv_pick [1, 2, 3, 0] rfl (hR17 x1 x2 y2 m1)
def J_X11_makesAll_136 (R17 : Int → Int → Int → hMem → hRs) (x1 x2 x3 s1 s2 : Int) (mem : hMem) : hRs := hv_ast mem 77 30 s1 s2 (fun m1 => J_X11_makesAll_193 R17 x1 x2 x3 m1)
set_option maxRecDepth 100000 in
theorem g_X11_makesAll_136 {X : hv_X} (hc : hv_C X cX11_makesAll 5 RX11 (none) 75 0 0) (R17 : Int → Int → Int → hMem → hRs) (hR17 : ∀ (x1 x2 x3 : Int) (mem : hMem), hv_R X 5 0 0 (hv_QX X 1 0 0) (R17 x1 x2 x3 mem) mem [] [(0, .ref (hv_ad X 65)), (1, .int (hv_I x1)), (2, .int (hv_I x2)), (3, .int (hv_I x3))] [] 17) (x1 x2 x3 s1 s2 : Int) (mem : hMem) : hv_R X 5 0 0 (hv_QX X 1 0 0) (J_X11_makesAll_136 R17 x1 x2 x3 s1 s2 mem) mem [] [(0, .ref (hv_ad X 65)), (1, .int (hv_I x1)), (2, .int (hv_I x2)), (3, .int (hv_I x3))] [.int (hv_I s2), .int (hv_I s1), .ref (hv_ad X 77)] 136 := by
  unfold J_X11_makesAll_136
  refine hv_iastore hc sh_a_77 (Nat.le_of_ble_eq_true rfl) dX11_makesAll_136 (fun m1 => ?_)
  refine hv_goto (tgt := 193) hc dX11_makesAll_137 (by decide) ?_
  exact hv_pick [0, 1, 2, 3] rfl (g_X11_makesAll_193 hc R17 hR17 x1 x2 x3 m1)
def J_X11_makesAll_62 (R17 : Int → Int → Int → hMem → hRs) (x1 x2 x3 s0 : Int) (mem : hMem) : hRs := hv_ald mem 66 216 (6 + x3) (fun v1 => hv_tsw v1 1 [hv_eq x3 x2 (J_X11_makesAll_136 R17 x1 x2 x3 x3 s0 mem) (hv_ald mem 66 216 (96 + x3) (fun v2 => hv_b (f_X11_heap v2 ((-1)) mem) (fun r3 m4 => hv_b (f_X11_joins x1 r3 s0 m4) (fun r5 m6 => J_X11_makesAll_136 R17 x1 x2 x3 x3 r5 m6)))), hv_ald mem 66 216 (66 + x3) (fun v7 => hv_ald mem 77 30 v7 (fun v8 => hv_b (f_X11_joins x1 s0 v8 mem) (fun r9 m10 => hv_ast m10 77 30 x3 r9 (fun m11 => J_X11_makesAll_193 R17 x1 x2 x3 m11)))), hv_b (f_X11_takes x1 s0 mem) (fun r12 m13 => hv_ast m13 77 30 x3 r12 (fun m14 => J_X11_makesAll_193 R17 x1 x2 x3 m14))] (hv_ast mem 77 30 x3 ((-1)) (fun m15 => J_X11_makesAll_193 R17 x1 x2 x3 m15)))
set_option maxRecDepth 100000 in
theorem g_X11_makesAll_62 {X : hv_X} (hc : hv_C X cX11_makesAll 5 RX11 (none) 75 0 0) (R17 : Int → Int → Int → hMem → hRs) (hR17 : ∀ (x1 x2 x3 : Int) (mem : hMem), hv_R X 5 0 0 (hv_QX X 1 0 0) (R17 x1 x2 x3 mem) mem [] [(0, .ref (hv_ad X 65)), (1, .int (hv_I x1)), (2, .int (hv_I x2)), (3, .int (hv_I x3))] [] 17) (x1 x2 x3 s0 : Int) (mem : hMem) : hv_R X 5 0 0 (hv_QX X 1 0 0) (J_X11_makesAll_62 R17 x1 x2 x3 s0 mem) mem [] [(0, .ref (hv_ad X 65)), (1, .int (hv_I x1)), (2, .int (hv_I x2)), (3, .int (hv_I x3))] [.int (hv_I s0)] 62 := by
  unfold J_X11_makesAll_62
  refine hv_istore (lv' := [(4, .int (hv_I s0)), (0, .ref (hv_ad X 65)), (1, .int (hv_I x1)), (2, .int (hv_I x2)), (3, .int (hv_I x3))]) hc dX11_makesAll_62 (by decide) rfl ?_
  refine hv_aload_n hc dX11_makesAll_64 rfl (hv_m 1 rfl) ?_
  refine hv_getR hc fl_X11_9 sh_o_65 rfl dX11_makesAll_65 ?_
  refine hv_bipush hc dX11_makesAll_68 (by decide) ?_
  refine hv_iload_n hc dX11_makesAll_70 rfl (hv_m 4 rfl) ?_
  refine hv_iadd hc dX11_makesAll_71 ?_
  refine hv_iaload hc sh_a_66 (Nat.le_of_ble_eq_true rfl) dX11_makesAll_72 (fun v1 => ?_)
  refine hv_tswitch (tgts := [100, 140, 170]) (tD := 186) hc dX11_makesAll_73 rfl (by decide) (by decide) ⟨?_, ?_, ?_, trivial⟩ ?_
  · refine hv_aload_n hc dX11_makesAll_100 rfl (hv_m 1 rfl) ?_
    refine hv_getR hc fl_X11_48 sh_o_65 rfl dX11_makesAll_101 ?_
    refine hv_iload_n hc dX11_makesAll_104 rfl (hv_m 4 rfl) ?_
    refine hv_iload_n hc dX11_makesAll_105 rfl (hv_m 4 rfl) ?_
    refine hv_iload_n hc dX11_makesAll_106 rfl (hv_m 3 rfl) ?_
    refine hv_icmp_ne (tgt := 115) hc dX11_makesAll_107 (by decide) ?_ ?_
    · refine hv_aload_n hc dX11_makesAll_115 rfl (hv_m 1 rfl) ?_
      refine hv_iload_n hc dX11_makesAll_116 rfl (hv_m 2 rfl) ?_
      refine hv_aload_n hc dX11_makesAll_117 rfl (hv_m 1 rfl) ?_
      refine hv_aload_n hc dX11_makesAll_118 rfl (hv_m 1 rfl) ?_
      refine hv_getR hc fl_X11_9 sh_o_65 rfl dX11_makesAll_119 ?_
      refine hv_bipush hc dX11_makesAll_122 (by decide) ?_
      refine hv_iload_n hc dX11_makesAll_124 rfl (hv_m 4 rfl) ?_
      refine hv_iadd hc dX11_makesAll_125 ?_
      refine hv_iaload hc sh_a_66 (Nat.le_of_ble_eq_true rfl) dX11_makesAll_126 (fun v2 => ?_)
      refine hv_iconst hc dX11_makesAll_127 ?_
      refine hv_callVi hc (c_X11_heap v2 ((-1)) mem) yv_X11_heap tw_1320 sh_o_65 rfl rfl rfl rfl (Nat.le_of_ble_eq_true rfl) (Nat.le_of_ble_eq_true rfl) (Nat.zero_le _) (Nat.zero_le _) dX11_makesAll_128 (fun r3 m4 => ?_)
      refine hv_iload hc dX11_makesAll_131 (hv_m 0 rfl) ?_
      refine hv_callVi hc (c_X11_joins x1 r3 s0 m4) yv_X11_joins tw_1324 sh_o_65 rfl rfl rfl rfl (Nat.le_of_ble_eq_true rfl) (Nat.le_of_ble_eq_true rfl) (Nat.zero_le _) (Nat.zero_le _) dX11_makesAll_133 (fun r5 m6 => ?_)
      exact hv_pick [1, 2, 3, 4] rfl (g_X11_makesAll_136 hc R17 hR17 x1 x2 x3 x3 r5 m6)
    · refine hv_iload hc dX11_makesAll_110 (hv_m 0 rfl) ?_
      refine hv_goto (tgt := 136) hc dX11_makesAll_112 (by decide) ?_
      exact hv_pick [1, 2, 3, 4] rfl (g_X11_makesAll_136 hc R17 hR17 x1 x2 x3 x3 s0 mem)
  · refine hv_aload_n hc dX11_makesAll_140 rfl (hv_m 1 rfl) ?_
    refine hv_getR hc fl_X11_48 sh_o_65 rfl dX11_makesAll_141 ?_
    refine hv_iload_n hc dX11_makesAll_144 rfl (hv_m 4 rfl) ?_
    refine hv_aload_n hc dX11_makesAll_145 rfl (hv_m 1 rfl) ?_
    refine hv_iload_n hc dX11_makesAll_146 rfl (hv_m 2 rfl) ?_
    refine hv_iload hc dX11_makesAll_147 (hv_m 0 rfl) ?_
    refine hv_aload_n hc dX11_makesAll_149 rfl (hv_m 1 rfl) ?_
    refine hv_getR hc fl_X11_48 sh_o_65 rfl dX11_makesAll_150 ?_
    refine hv_aload_n hc dX11_makesAll_153 rfl (hv_m 1 rfl) ?_
    refine hv_getR hc fl_X11_9 sh_o_65 rfl dX11_makesAll_154 ?_
    refine hv_bipush hc dX11_makesAll_157 (by decide) ?_
    refine hv_iload_n hc dX11_makesAll_159 rfl (hv_m 4 rfl) ?_
    refine hv_iadd hc dX11_makesAll_160 ?_
    refine hv_iaload hc sh_a_66 (Nat.le_of_ble_eq_true rfl) dX11_makesAll_161 (fun v7 => ?_)
    refine hv_iaload hc sh_a_77 (Nat.le_of_ble_eq_true rfl) dX11_makesAll_162 (fun v8 => ?_)
    refine hv_callVi hc (c_X11_joins x1 s0 v8 mem) yv_X11_joins tw_1324 sh_o_65 rfl rfl rfl rfl (Nat.le_of_ble_eq_true rfl) (Nat.le_of_ble_eq_true rfl) (Nat.zero_le _) (Nat.zero_le _) dX11_makesAll_163 (fun r9 m10 => ?_)
    refine hv_iastore hc sh_a_77 (Nat.le_of_ble_eq_true rfl) dX11_makesAll_166 (fun m11 => ?_)
    refine hv_goto (tgt := 193) hc dX11_makesAll_167 (by decide) ?_
    exact hv_pick [1, 2, 3, 4] rfl (g_X11_makesAll_193 hc R17 hR17 x1 x2 x3 m11)
  · refine hv_aload_n hc dX11_makesAll_170 rfl (hv_m 1 rfl) ?_
    refine hv_getR hc fl_X11_48 sh_o_65 rfl dX11_makesAll_171 ?_
    refine hv_iload_n hc dX11_makesAll_174 rfl (hv_m 4 rfl) ?_
    refine hv_aload_n hc dX11_makesAll_175 rfl (hv_m 1 rfl) ?_
    refine hv_iload_n hc dX11_makesAll_176 rfl (hv_m 2 rfl) ?_
    refine hv_iload hc dX11_makesAll_177 (hv_m 0 rfl) ?_
    refine hv_callVi hc (c_X11_takes x1 s0 mem) yv_X11_takes tw_1356 sh_o_65 rfl rfl rfl rfl (Nat.le_of_ble_eq_true rfl) (Nat.le_of_ble_eq_true rfl) (Nat.zero_le _) (Nat.zero_le _) dX11_makesAll_179 (fun r12 m13 => ?_)
    refine hv_iastore hc sh_a_77 (Nat.le_of_ble_eq_true rfl) dX11_makesAll_182 (fun m14 => ?_)
    refine hv_goto (tgt := 193) hc dX11_makesAll_183 (by decide) ?_
    exact hv_pick [1, 2, 3, 4] rfl (g_X11_makesAll_193 hc R17 hR17 x1 x2 x3 m14)
  · refine hv_aload_n hc dX11_makesAll_186 rfl (hv_m 1 rfl) ?_
    refine hv_getR hc fl_X11_48 sh_o_65 rfl dX11_makesAll_187 ?_
    refine hv_iload_n hc dX11_makesAll_190 rfl (hv_m 4 rfl) ?_
    refine hv_iconst hc dX11_makesAll_191 ?_
    refine hv_iastore hc sh_a_77 (Nat.le_of_ble_eq_true rfl) dX11_makesAll_192 (fun m15 => ?_)
    exact hv_pick [1, 2, 3, 4] rfl (g_X11_makesAll_193 hc R17 hR17 x1 x2 x3 m15)
def B_X11_makesAll_17 (R17 : Int → Int → Int → hMem → hRs) (x1 x2 x3 : Int) (mem : hMem) : hRs := hv_ald mem 66 216 2 (fun v1 => hv_lt x3 v1 (hv_put mem 65 22 0 (fun m2 => hv_ald m2 66 216 (6 + x3) (fun v3 => hv_eq v3 0 (J_X11_makesAll_62 R17 x1 x2 x3 ((-1)) m2) (hv_ald m2 66 216 (36 + x3) (fun v4 => hv_ald m2 77 30 v4 (fun v5 => J_X11_makesAll_62 R17 x1 x2 x3 v5 m2)))))) (hv_ret 0 mem))
def L_X11_makesAll_17 : Nat → Int → Int → Int → hMem → hRs
  | 0 => fun _ _ _ _ => none
  | n + 1 => B_X11_makesAll_17 (L_X11_makesAll_17 n)
set_option maxRecDepth 100000 in
theorem gB_X11_makesAll_17 {X : hv_X} (hc : hv_C X cX11_makesAll 5 RX11 (none) 75 0 0) (R17 : Int → Int → Int → hMem → hRs) (hR17 : ∀ (x1 x2 x3 : Int) (mem : hMem), hv_R X 5 0 0 (hv_QX X 1 0 0) (R17 x1 x2 x3 mem) mem [] [(0, .ref (hv_ad X 65)), (1, .int (hv_I x1)), (2, .int (hv_I x2)), (3, .int (hv_I x3))] [] 17) (x1 x2 x3 : Int) (mem : hMem) : hv_R X 5 0 0 (hv_QX X 1 0 0) (B_X11_makesAll_17 R17 x1 x2 x3 mem) mem [] [(0, .ref (hv_ad X 65)), (1, .int (hv_I x1)), (2, .int (hv_I x2)), (3, .int (hv_I x3))] [] 17 := by
  unfold B_X11_makesAll_17
  refine hv_iload_n hc dX11_makesAll_17 rfl (hv_m 3 rfl) ?_
  refine hv_aload_n hc dX11_makesAll_18 rfl (hv_m 0 rfl) ?_
  refine hv_getR hc fl_X11_9 sh_o_65 rfl dX11_makesAll_19 ?_
  refine hv_iconst hc dX11_makesAll_22 ?_
  refine hv_iaload hc sh_a_66 (Nat.le_of_ble_eq_true rfl) dX11_makesAll_23 (fun v1 => ?_)
  refine hv_icmp_ge (tgt := 209) hc dX11_makesAll_24 (by decide) ?_ ?_
  · exact hv_vret hc dX11_makesAll_209
  · refine hv_aload_n hc dX11_makesAll_27 rfl (hv_m 0 rfl) ?_
    refine hv_iconst hc dX11_makesAll_28 ?_
    refine hv_putI hc fp_X11_198 sh_o_65 rfl dX11_makesAll_29 (fun m2 => ?_)
    refine hv_aload_n hc dX11_makesAll_32 rfl (hv_m 0 rfl) ?_
    refine hv_getR hc fl_X11_9 sh_o_65 rfl dX11_makesAll_33 ?_
    refine hv_bipush hc dX11_makesAll_36 (by decide) ?_
    refine hv_iload_n hc dX11_makesAll_38 rfl (hv_m 3 rfl) ?_
    refine hv_iadd hc dX11_makesAll_39 ?_
    refine hv_iaload hc sh_a_66 (Nat.le_of_ble_eq_true rfl) dX11_makesAll_40 (fun v3 => ?_)
    refine hv_if_ne (tgt := 48) hc dX11_makesAll_41 (by decide) ?_ ?_
    · refine hv_aload_n hc dX11_makesAll_48 rfl (hv_m 0 rfl) ?_
      refine hv_getR hc fl_X11_48 sh_o_65 rfl dX11_makesAll_49 ?_
      refine hv_aload_n hc dX11_makesAll_52 rfl (hv_m 0 rfl) ?_
      refine hv_getR hc fl_X11_9 sh_o_65 rfl dX11_makesAll_53 ?_
      refine hv_bipush hc dX11_makesAll_56 (by decide) ?_
      refine hv_iload_n hc dX11_makesAll_58 rfl (hv_m 3 rfl) ?_
      refine hv_iadd hc dX11_makesAll_59 ?_
      refine hv_iaload hc sh_a_66 (Nat.le_of_ble_eq_true rfl) dX11_makesAll_60 (fun v4 => ?_)
      refine hv_iaload hc sh_a_77 (Nat.le_of_ble_eq_true rfl) dX11_makesAll_61 (fun v5 => ?_)
      exact hv_pick [0, 1, 2, 3] rfl (g_X11_makesAll_62 hc R17 hR17 x1 x2 x3 v5 m2)
    · refine hv_iconst hc dX11_makesAll_44 ?_
      refine hv_goto (tgt := 62) hc dX11_makesAll_45 (by decide) ?_
      exact hv_pick [0, 1, 2, 3] rfl (g_X11_makesAll_62 hc R17 hR17 x1 x2 x3 ((-1)) m2)
theorem g_X11_makesAll_17 {X : hv_X} (hc : hv_C X cX11_makesAll 5 RX11 (none) 75 0 0) : ∀ (n : Nat) (x1 x2 x3 : Int) (mem : hMem), hv_R X 5 0 0 (hv_QX X 1 0 0) (L_X11_makesAll_17 n x1 x2 x3 mem) mem [] [(0, .ref (hv_ad X 65)), (1, .int (hv_I x1)), (2, .int (hv_I x2)), (3, .int (hv_I x3))] [] 17 := by
  intro n
  induction n with
  | zero => intros; exact hv_none
  | succ n ih => exact gB_X11_makesAll_17 hc _ ih
def f_X11_makesAll (x1 x2 : Int) (mem : hMem) : hRs := hv_put mem 65 13 0 (fun m1 => hv_put m1 65 18 0 (fun m2 => hv_put m2 65 21 0 (fun m3 => L_X11_makesAll_17 hv_FU x1 x2 0 m3)))
set_option maxRecDepth 100000 in
set_option maxHeartbeats 4000000 in
theorem c_X11_makesAll (x1 x2 : Int) (mem : hMem) : hv_Met 75 0 0 1 yX11_makesAll cX11_makesAll 5 (none) (fun ad _ _ => [.ref (ad 65), .int (hv_I x1), .int (hv_I x2)]) mem (f_X11_makesAll x1 x2 mem) := by
  refine hv_start (by decide +kernel) (fun _ _ _ => Nat.le_of_ble_eq_true rfl) ?_
  intro X hc
  have hc : hv_C X cX11_makesAll 5 RX11 (none) 75 0 0 := hc
  show hv_R X 5 0 0 (hv_QX X 1 0 0) (f_X11_makesAll x1 x2 mem) mem [] [(0, .ref (hv_ad X 65)), (1, .int (hv_I x1)), (2, .int (hv_I x2))] [] 0
  unfold f_X11_makesAll
  refine hv_aload_n hc dX11_makesAll_0 rfl (hv_m 0 rfl) ?_
  refine hv_iconst hc dX11_makesAll_1 ?_
  refine hv_putI hc fp_X11_189 sh_o_65 rfl dX11_makesAll_2 (fun m1 => ?_)
  refine hv_aload_n hc dX11_makesAll_5 rfl (hv_m 0 rfl) ?_
  refine hv_iconst hc dX11_makesAll_6 ?_
  refine hv_putI hc fp_X11_192 sh_o_65 rfl dX11_makesAll_7 (fun m2 => ?_)
  refine hv_aload_n hc dX11_makesAll_10 rfl (hv_m 0 rfl) ?_
  refine hv_iconst hc dX11_makesAll_11 ?_
  refine hv_putI hc fp_X11_186 sh_o_65 rfl dX11_makesAll_12 (fun m3 => ?_)
  refine hv_iconst hc dX11_makesAll_15 ?_
  refine hv_istore_n (lv' := [(3, .int (hv_I 0)), (0, .ref (hv_ad X 65)), (1, .int (hv_I x1)), (2, .int (hv_I x2))]) hc dX11_makesAll_16 rfl (by decide) rfl ?_
  exact hv_pick [1, 2, 3, 0] rfl (g_X11_makesAll_17 hc hv_FU x1 x2 0 m3)
def f_X11_jobOf (x1 : Int) (mem : hMem) : hRs := hv_ald mem 66 216 (6 + x1) (fun v1 => hv_eq v1 3 (hv_ald mem 66 216 0 (fun v2 => hv_b (f_X11_makesAll v2 ((-1)) mem) (fun r3 m4 => hv_ald m4 66 216 (36 + x1) (fun v5 => hv_ald m4 77 30 v5 (fun v6 => hv_ald m4 69 8000 v6 (fun v7 => hv_ret v7 m4)))))) (hv_ald mem 66 216 (96 + x1) (fun v8 => hv_ret v8 mem)))
set_option maxRecDepth 100000 in
set_option maxHeartbeats 4000000 in
theorem c_X11_jobOf (x1 : Int) (mem : hMem) : hv_Met 76 0 0 0 yX11_jobOf cX11_jobOf 2 (some FieldType.int) (fun ad _ _ => [.ref (ad 65), .int (hv_I x1)]) mem (f_X11_jobOf x1 mem) := by
  refine hv_start (by decide +kernel) (fun _ _ _ => Nat.le_of_ble_eq_true rfl) ?_
  intro X hc
  have hc : hv_C X cX11_jobOf 2 RX11 (some FieldType.int) 76 0 0 := hc
  show hv_R X 2 0 0 (hv_QX X 0 0 0) (f_X11_jobOf x1 mem) mem [] [(0, .ref (hv_ad X 65)), (1, .int (hv_I x1))] [] 0
  unfold f_X11_jobOf
  refine hv_aload_n hc dX11_jobOf_0 rfl (hv_m 0 rfl) ?_
  refine hv_getR hc fl_X11_9 sh_o_65 rfl dX11_jobOf_1 ?_
  refine hv_bipush hc dX11_jobOf_4 (by decide) ?_
  refine hv_iload_n hc dX11_jobOf_6 rfl (hv_m 1 rfl) ?_
  refine hv_iadd hc dX11_jobOf_7 ?_
  refine hv_iaload hc sh_a_66 (Nat.le_of_ble_eq_true rfl) dX11_jobOf_8 (fun v1 => ?_)
  refine hv_iconst hc dX11_jobOf_9 ?_
  refine hv_icmp_eq (tgt := 23) hc dX11_jobOf_10 (by decide) ?_ ?_
  · refine hv_aload_n hc dX11_jobOf_23 rfl (hv_m 0 rfl) ?_
    refine hv_aload_n hc dX11_jobOf_24 rfl (hv_m 0 rfl) ?_
    refine hv_getR hc fl_X11_9 sh_o_65 rfl dX11_jobOf_25 ?_
    refine hv_iconst hc dX11_jobOf_28 ?_
    refine hv_iaload hc sh_a_66 (Nat.le_of_ble_eq_true rfl) dX11_jobOf_29 (fun v2 => ?_)
    refine hv_iconst hc dX11_jobOf_30 ?_
    refine hv_callVv hc (c_X11_makesAll v2 ((-1)) mem) yv_X11_makesAll tw_1316 sh_o_65 rfl rfl rfl rfl (Nat.le_of_ble_eq_true rfl) (Nat.le_of_ble_eq_true rfl) (Nat.zero_le _) (Nat.zero_le _) dX11_jobOf_31 (fun r3 m4 => ?_)
    refine hv_aload_n hc dX11_jobOf_34 rfl (hv_m 0 rfl) ?_
    refine hv_getR hc fl_X11_23 sh_o_65 rfl dX11_jobOf_35 ?_
    refine hv_aload_n hc dX11_jobOf_38 rfl (hv_m 0 rfl) ?_
    refine hv_getR hc fl_X11_48 sh_o_65 rfl dX11_jobOf_39 ?_
    refine hv_aload_n hc dX11_jobOf_42 rfl (hv_m 0 rfl) ?_
    refine hv_getR hc fl_X11_9 sh_o_65 rfl dX11_jobOf_43 ?_
    refine hv_bipush hc dX11_jobOf_46 (by decide) ?_
    refine hv_iload_n hc dX11_jobOf_48 rfl (hv_m 1 rfl) ?_
    refine hv_iadd hc dX11_jobOf_49 ?_
    refine hv_iaload hc sh_a_66 (Nat.le_of_ble_eq_true rfl) dX11_jobOf_50 (fun v5 => ?_)
    refine hv_iaload hc sh_a_77 (Nat.le_of_ble_eq_true rfl) dX11_jobOf_51 (fun v6 => ?_)
    refine hv_iaload hc sh_a_69 (Nat.le_of_ble_eq_true rfl) dX11_jobOf_52 (fun v7 => ?_)
    exact hv_iret hc dX11_jobOf_53
  · refine hv_aload_n hc dX11_jobOf_13 rfl (hv_m 0 rfl) ?_
    refine hv_getR hc fl_X11_9 sh_o_65 rfl dX11_jobOf_14 ?_
    refine hv_bipush hc dX11_jobOf_17 (by decide) ?_
    refine hv_iload_n hc dX11_jobOf_19 rfl (hv_m 1 rfl) ?_
    refine hv_iadd hc dX11_jobOf_20 ?_
    refine hv_iaload hc sh_a_66 (Nat.le_of_ble_eq_true rfl) dX11_jobOf_21 (fun v8 => ?_)
    exact hv_iret hc dX11_jobOf_22
def f_X11_version (x1 x2 : Int) (mem : hMem) : hRs := hv_b (f_X11_isVersion x1 mem) (fun r1 m2 => hv_eq r1 0 (hv_ret ((-2)) m2) (hv_tsw x2 0 [hv_ald m2 66 216 (6 + x1) (fun v3 => hv_ret v3 m2), hv_ald m2 66 216 (36 + x1) (fun v4 => hv_ret v4 m2), hv_ald m2 66 216 (66 + x1) (fun v5 => hv_ret v5 m2), hv_b (f_X11_jobOf x1 m2) (fun r6 m7 => hv_ret r6 m7)] (hv_ret ((-2)) m2)))
set_option maxRecDepth 100000 in
set_option maxHeartbeats 4000000 in
theorem c_X11_version (x1 x2 : Int) (mem : hMem) : hv_Met 77 0 0 0 yX11_version cX11_version 3 (some FieldType.int) (fun ad _ _ => [.ref (ad 65), .int (hv_I x1), .int (hv_I x2)]) mem (f_X11_version x1 x2 mem) := by
  refine hv_start (by decide +kernel) (fun _ _ _ => Nat.le_of_ble_eq_true rfl) ?_
  intro X hc
  have hc : hv_C X cX11_version 3 RX11 (some FieldType.int) 77 0 0 := hc
  show hv_R X 3 0 0 (hv_QX X 0 0 0) (f_X11_version x1 x2 mem) mem [] [(0, .ref (hv_ad X 65)), (1, .int (hv_I x1)), (2, .int (hv_I x2))] [] 0
  unfold f_X11_version
  refine hv_aload_n hc dX11_version_0 rfl (hv_m 0 rfl) ?_
  refine hv_iload_n hc dX11_version_1 rfl (hv_m 1 rfl) ?_
  refine hv_callVi hc (c_X11_isVersion x1 mem) yv_X11_isVersion tw_1308 sh_o_65 rfl rfl rfl rfl (Nat.le_of_ble_eq_true rfl) (Nat.le_of_ble_eq_true rfl) (Nat.zero_le _) (Nat.zero_le _) dX11_version_2 (fun r1 m2 => ?_)
  refine hv_if_ne (tgt := 11) hc dX11_version_5 (by decide) ?_ ?_
  · refine hv_iload_n hc dX11_version_11 rfl (hv_m 2 rfl) ?_
    refine hv_tswitch (tgts := [44, 54, 64, 74]) (tD := 80) hc dX11_version_12 rfl (by decide) (by decide) ⟨?_, ?_, ?_, ?_, trivial⟩ ?_
    · refine hv_aload_n hc dX11_version_44 rfl (hv_m 0 rfl) ?_
      refine hv_getR hc fl_X11_9 sh_o_65 rfl dX11_version_45 ?_
      refine hv_bipush hc dX11_version_48 (by decide) ?_
      refine hv_iload_n hc dX11_version_50 rfl (hv_m 1 rfl) ?_
      refine hv_iadd hc dX11_version_51 ?_
      refine hv_iaload hc sh_a_66 (Nat.le_of_ble_eq_true rfl) dX11_version_52 (fun v3 => ?_)
      exact hv_iret hc dX11_version_53
    · refine hv_aload_n hc dX11_version_54 rfl (hv_m 0 rfl) ?_
      refine hv_getR hc fl_X11_9 sh_o_65 rfl dX11_version_55 ?_
      refine hv_bipush hc dX11_version_58 (by decide) ?_
      refine hv_iload_n hc dX11_version_60 rfl (hv_m 1 rfl) ?_
      refine hv_iadd hc dX11_version_61 ?_
      refine hv_iaload hc sh_a_66 (Nat.le_of_ble_eq_true rfl) dX11_version_62 (fun v4 => ?_)
      exact hv_iret hc dX11_version_63
    · refine hv_aload_n hc dX11_version_64 rfl (hv_m 0 rfl) ?_
      refine hv_getR hc fl_X11_9 sh_o_65 rfl dX11_version_65 ?_
      refine hv_bipush hc dX11_version_68 (by decide) ?_
      refine hv_iload_n hc dX11_version_70 rfl (hv_m 1 rfl) ?_
      refine hv_iadd hc dX11_version_71 ?_
      refine hv_iaload hc sh_a_66 (Nat.le_of_ble_eq_true rfl) dX11_version_72 (fun v5 => ?_)
      exact hv_iret hc dX11_version_73
    · refine hv_aload_n hc dX11_version_74 rfl (hv_m 0 rfl) ?_
      refine hv_iload_n hc dX11_version_75 rfl (hv_m 1 rfl) ?_
      refine hv_callVi hc (c_X11_jobOf x1 m2) yv_X11_jobOf tw_1312 sh_o_65 rfl rfl rfl rfl (Nat.le_of_ble_eq_true rfl) (Nat.le_of_ble_eq_true rfl) (Nat.zero_le _) (Nat.zero_le _) dX11_version_76 (fun r6 m7 => ?_)
      exact hv_iret hc dX11_version_79
    · refine hv_bipush hc dX11_version_80 (by decide) ?_
      exact hv_iret hc dX11_version_82
  · refine hv_bipush hc dX11_version_8 (by decide) ?_
    exact hv_iret hc dX11_version_10
