def J_X11_job_34 (x1 s1 : Int) (mem : hMem) : hRs := hv_ald mem 66 216 (s1 + x1) (fun v1 => hv_ret v1 mem)
set_option maxRecDepth 100000 in
theorem g_X11_job_34 {X : hv_X} (hc : hv_C X cX11_job 3 RX11 (some FieldType.int) 2 0 0) (x1 s1 : Int) (mem : hMem) : hv_R X 3 0 0 (hv_QX X 0 0 0) (J_X11_job_34 x1 s1 mem) mem [] [(1, .int (hv_I x1))] [.int (hv_I s1), .ref (hv_ad X 66)] 34 := by
  unfold J_X11_job_34
  refine hv_iload_n hc dX11_job_34 rfl (hv_m 0 rfl) ?_
  refine hv_iadd hc dX11_job_35 ?_
  refine hv_iaload hc sh_a_66 (Nat.le_of_ble_eq_true rfl) dX11_job_36 (fun v1 => ?_)
  refine hv_goto (tgt := 42) hc dX11_job_37 (by decide) ?_
  exact hv_iret hc dX11_job_42
def f_X11_job (x1 x2 : Int) (mem : hMem) : hRs := hv_b (f_X11_isJob x1 mem) (fun r1 m2 => hv_eq r1 0 (hv_ret ((-2)) m2) (hv_rg x2 (hv_b (f_X11_in x2 0 1 m2) (fun r3 m4 => hv_eq r3 0 (hv_ret ((-2)) m4) (hv_eq x2 0 (J_X11_job_34 x1 126 m4) (J_X11_job_34 x1 156 m4))))))
set_option maxRecDepth 100000 in
set_option maxHeartbeats 4000000 in
theorem c_X11_job (x1 x2 : Int) (mem : hMem) : hv_Met 2 0 0 0 yX11_job cX11_job 3 (some FieldType.int) (fun ad _ _ => [.ref (ad 65), .int (hv_I x1), .int (hv_I x2)]) mem (f_X11_job x1 x2 mem) := by
  refine hv_start (by decide +kernel) (fun _ _ _ => Nat.le_of_ble_eq_true rfl) ?_
  intro X hc
  have hc : hv_C X cX11_job 3 RX11 (some FieldType.int) 2 0 0 := hc
  show hv_R X 3 0 0 (hv_QX X 0 0 0) (f_X11_job x1 x2 mem) mem [] [(0, .ref (hv_ad X 65)), (1, .int (hv_I x1)), (2, .int (hv_I x2))] [] 0
  unfold f_X11_job
  refine hv_aload_n hc dX11_job_0 rfl (hv_m 0 rfl) ?_
  refine hv_iload_n hc dX11_job_1 rfl (hv_m 1 rfl) ?_
  refine hv_callVi hc (c_X11_isJob x1 mem) yv_X11_isJob tw_1380 sh_o_65 rfl rfl rfl rfl (Nat.le_of_ble_eq_true rfl) (Nat.le_of_ble_eq_true rfl) (Nat.zero_le _) (Nat.zero_le _) dX11_job_2 (fun r1 m2 => ?_)
  refine hv_if_eq (tgt := 40) hc dX11_job_5 (by decide) ?_ ?_
  · refine hv_bipush hc dX11_job_40 (by decide) ?_
    exact hv_iret hc dX11_job_42
  · refine hv_iload_n hc dX11_job_8 rfl (hv_m 2 rfl) ?_
    refine hv_i2l hc dX11_job_9 ?_
    refine hv_lconst (k := 0) hc dX11_job_10 (by decide) ?_
    refine hv_lconst (k := 1) hc dX11_job_11 (by decide) ?_
    refine hv_callSi hc (c_X11_in x2 0 1 m2) ys_X11_in tw_1233 rfl rfl rfl (Nat.le_of_ble_eq_true rfl) (Nat.le_of_ble_eq_true rfl) (Nat.zero_le _) (Nat.zero_le _) dX11_job_12 (fun r3 m4 => ?_)
    refine hv_if_eq (tgt := 40) hc dX11_job_15 (by decide) ?_ ?_
    · refine hv_bipush hc dX11_job_40 (by decide) ?_
      exact hv_iret hc dX11_job_42
    · refine hv_aload_n hc dX11_job_18 rfl (hv_m 0 rfl) ?_
      refine hv_getR hc fl_X11_9 sh_o_65 rfl dX11_job_19 ?_
      refine hv_iload_n hc dX11_job_22 rfl (hv_m 2 rfl) ?_
      refine hv_if_ne (tgt := 31) hc dX11_job_23 (by decide) ?_ ?_
      · refine hv_sipush hc dX11_job_31 (by decide) ?_
        exact hv_pick [1] rfl (g_X11_job_34 hc x1 156 m4)
      · refine hv_bipush hc dX11_job_26 (by decide) ?_
        refine hv_goto (tgt := 34) hc dX11_job_28 (by decide) ?_
        exact hv_pick [1] rfl (g_X11_job_34 hc x1 126 m4)
def B_X11_longOf_4 (R4 : Int → Int → hMem → hRs) (x2 x3 : Int) (mem : hMem) : hRs := hv_lt x3 0 (hv_ret x2 mem) (hv_set (x2 + 1) (fun y1 => hv_ald mem 76 40000 x3 (fun v2 => R4 y1 v2 mem)))
def L_X11_longOf_4 : Nat → Int → Int → hMem → hRs
  | 0 => fun _ _ _ => none
  | n + 1 => B_X11_longOf_4 (L_X11_longOf_4 n)
set_option maxRecDepth 100000 in
theorem gB_X11_longOf_4 {X : hv_X} (hc : hv_C X cX11_longOf 4 RX11 (some FieldType.int) 0 0 0) (R4 : Int → Int → hMem → hRs) (hR4 : ∀ (x2 x3 : Int) (mem : hMem), hv_R X 4 0 0 (hv_QX X 0 0 0) (R4 x2 x3 mem) mem [] [(0, .ref (hv_ad X 65)), (2, .int (hv_I x2)), (3, .int (hv_I x3))] [] 4) (x2 x3 : Int) (mem : hMem) : hv_R X 4 0 0 (hv_QX X 0 0 0) (B_X11_longOf_4 R4 x2 x3 mem) mem [] [(0, .ref (hv_ad X 65)), (2, .int (hv_I x2)), (3, .int (hv_I x3))] [] 4 := by
  unfold B_X11_longOf_4
  refine hv_iload_n hc dX11_longOf_4 rfl (hv_m 2 rfl) ?_
  refine hv_if_lt (tgt := 21) hc dX11_longOf_5 (by decide) ?_ ?_
  · refine hv_iload_n hc dX11_longOf_21 rfl (hv_m 1 rfl) ?_
    exact hv_iret hc dX11_longOf_22
  · refine hv_iinc_s (lvf := fun y1 => [(2, .int (hv_I y1)), (0, .ref (hv_ad X 65)), (3, .int (hv_I x3))]) hc dX11_longOf_8 (by decide) (hv_m 1 rfl) (fun _ => rfl) (fun y1 => ?_)
    refine hv_aload_n hc dX11_longOf_11 rfl (hv_m 1 rfl) ?_
    refine hv_getR hc fl_X11_45 sh_o_65 rfl dX11_longOf_12 ?_
    refine hv_iload_n hc dX11_longOf_15 rfl (hv_m 2 rfl) ?_
    refine hv_iaload hc sh_a_76 (Nat.le_of_ble_eq_true rfl) dX11_longOf_16 (fun v2 => ?_)
    refine hv_istore_n (lv' := [(3, .int (hv_I v2)), (2, .int (hv_I y1)), (0, .ref (hv_ad X 65))]) hc dX11_longOf_17 rfl (by decide) rfl ?_
    refine hv_goto (tgt := 4) hc dX11_longOf_18 (by decide) ?_
    exact hv_pick [2, 1, 0] rfl (hR4 y1 v2 mem)
theorem g_X11_longOf_4 {X : hv_X} (hc : hv_C X cX11_longOf 4 RX11 (some FieldType.int) 0 0 0) : ∀ (n : Nat) (x2 x3 : Int) (mem : hMem), hv_R X 4 0 0 (hv_QX X 0 0 0) (L_X11_longOf_4 n x2 x3 mem) mem [] [(0, .ref (hv_ad X 65)), (2, .int (hv_I x2)), (3, .int (hv_I x3))] [] 4 := by
  intro n
  induction n with
  | zero => intros; exact hv_none
  | succ n ih => exact gB_X11_longOf_4 hc _ ih
def f_X11_longOf (x1 : Int) (mem : hMem) : hRs := L_X11_longOf_4 hv_FU 0 x1 mem
set_option maxRecDepth 100000 in
set_option maxHeartbeats 4000000 in
theorem c_X11_longOf (x1 : Int) (mem : hMem) : hv_Met 0 0 0 0 yX11_longOf cX11_longOf 4 (some FieldType.int) (fun ad _ _ => [.ref (ad 65), .int (hv_I x1)]) mem (f_X11_longOf x1 mem) := by
  refine hv_start (by decide +kernel) (fun _ _ _ => Nat.le_of_ble_eq_true rfl) ?_
  intro X hc
  have hc : hv_C X cX11_longOf 4 RX11 (some FieldType.int) 0 0 0 := hc
  show hv_R X 4 0 0 (hv_QX X 0 0 0) (f_X11_longOf x1 mem) mem [] [(0, .ref (hv_ad X 65)), (1, .int (hv_I x1))] [] 0
  unfold f_X11_longOf
  refine hv_iconst hc dX11_longOf_0 ?_
  refine hv_istore_n (lv' := [(2, .int (hv_I 0)), (0, .ref (hv_ad X 65)), (1, .int (hv_I x1))]) hc dX11_longOf_1 rfl (by decide) rfl ?_
  refine hv_iload_n hc dX11_longOf_2 rfl (hv_m 2 rfl) ?_
  refine hv_istore_n (lv' := [(3, .int (hv_I x1)), (2, .int (hv_I 0)), (0, .ref (hv_ad X 65)), (1, .int (hv_I x1))]) hc dX11_longOf_3 rfl (by decide) rfl ?_
  exact hv_pick [2, 1, 0] rfl (g_X11_longOf_4 hc hv_FU 0 x1 mem)
def B_X11_thingOf_5 (R5 : Int → Int → Int → hMem → hRs) (x2 x3 x4 : Int) (mem : hMem) : hRs := hv_lt x4 x2 (hv_ald mem 76 40000 x3 (fun v2 => hv_set (x4 + 1) (fun y3 => R5 x2 v2 y3 mem))) (hv_ald mem 75 40000 x3 (fun v1 => hv_ret v1 mem))
def L_X11_thingOf_5 : Nat → Int → Int → Int → hMem → hRs
  | 0 => fun _ _ _ _ => none
  | n + 1 => B_X11_thingOf_5 (L_X11_thingOf_5 n)
set_option maxRecDepth 100000 in
theorem gB_X11_thingOf_5 {X : hv_X} (hc : hv_C X cX11_thingOf 5 RX11 (some FieldType.int) 0 0 0) (R5 : Int → Int → Int → hMem → hRs) (hR5 : ∀ (x2 x3 x4 : Int) (mem : hMem), hv_R X 5 0 0 (hv_QX X 0 0 0) (R5 x2 x3 x4 mem) mem [] [(0, .ref (hv_ad X 65)), (2, .int (hv_I x2)), (3, .int (hv_I x3)), (4, .int (hv_I x4))] [] 5) (x2 x3 x4 : Int) (mem : hMem) : hv_R X 5 0 0 (hv_QX X 0 0 0) (B_X11_thingOf_5 R5 x2 x3 x4 mem) mem [] [(0, .ref (hv_ad X 65)), (2, .int (hv_I x2)), (3, .int (hv_I x3)), (4, .int (hv_I x4))] [] 5 := by
  unfold B_X11_thingOf_5
  refine hv_iload hc dX11_thingOf_5 (hv_m 3 rfl) ?_
  refine hv_iload_n hc dX11_thingOf_7 rfl (hv_m 1 rfl) ?_
  refine hv_icmp_ge (tgt := 24) hc dX11_thingOf_8 (by decide) ?_ ?_
  · refine hv_aload_n hc dX11_thingOf_24 rfl (hv_m 0 rfl) ?_
    refine hv_getR hc fl_X11_42 sh_o_65 rfl dX11_thingOf_25 ?_
    refine hv_iload_n hc dX11_thingOf_28 rfl (hv_m 2 rfl) ?_
    refine hv_iaload hc sh_a_75 (Nat.le_of_ble_eq_true rfl) dX11_thingOf_29 (fun v1 => ?_)
    exact hv_iret hc dX11_thingOf_30
  · refine hv_aload_n hc dX11_thingOf_11 rfl (hv_m 0 rfl) ?_
    refine hv_getR hc fl_X11_45 sh_o_65 rfl dX11_thingOf_12 ?_
    refine hv_iload_n hc dX11_thingOf_15 rfl (hv_m 2 rfl) ?_
    refine hv_iaload hc sh_a_76 (Nat.le_of_ble_eq_true rfl) dX11_thingOf_16 (fun v2 => ?_)
    refine hv_istore_n (lv' := [(3, .int (hv_I v2)), (0, .ref (hv_ad X 65)), (2, .int (hv_I x2)), (4, .int (hv_I x4))]) hc dX11_thingOf_17 rfl (by decide) rfl ?_
    refine hv_iinc_s (lvf := fun y3 => [(4, .int (hv_I y3)), (3, .int (hv_I v2)), (0, .ref (hv_ad X 65)), (2, .int (hv_I x2))]) hc dX11_thingOf_18 (by decide) (hv_m 3 rfl) (fun _ => rfl) (fun y3 => ?_)
    refine hv_goto (tgt := 5) hc dX11_thingOf_21 (by decide) ?_
    exact hv_pick [2, 3, 1, 0] rfl (hR5 x2 v2 y3 mem)
theorem g_X11_thingOf_5 {X : hv_X} (hc : hv_C X cX11_thingOf 5 RX11 (some FieldType.int) 0 0 0) : ∀ (n : Nat) (x2 x3 x4 : Int) (mem : hMem), hv_R X 5 0 0 (hv_QX X 0 0 0) (L_X11_thingOf_5 n x2 x3 x4 mem) mem [] [(0, .ref (hv_ad X 65)), (2, .int (hv_I x2)), (3, .int (hv_I x3)), (4, .int (hv_I x4))] [] 5 := by
  intro n
  induction n with
  | zero => intros; exact hv_none
  | succ n ih => exact gB_X11_thingOf_5 hc _ ih
def f_X11_thingOf (x1 x2 : Int) (mem : hMem) : hRs := L_X11_thingOf_5 hv_FU x2 x1 0 mem
set_option maxRecDepth 100000 in
set_option maxHeartbeats 4000000 in
theorem c_X11_thingOf (x1 x2 : Int) (mem : hMem) : hv_Met 0 0 0 0 yX11_thingOf cX11_thingOf 5 (some FieldType.int) (fun ad _ _ => [.ref (ad 65), .int (hv_I x1), .int (hv_I x2)]) mem (f_X11_thingOf x1 x2 mem) := by
  refine hv_start (by decide +kernel) (fun _ _ _ => Nat.le_of_ble_eq_true rfl) ?_
  intro X hc
  have hc : hv_C X cX11_thingOf 5 RX11 (some FieldType.int) 0 0 0 := hc
  show hv_R X 5 0 0 (hv_QX X 0 0 0) (f_X11_thingOf x1 x2 mem) mem [] [(0, .ref (hv_ad X 65)), (1, .int (hv_I x1)), (2, .int (hv_I x2))] [] 0
  unfold f_X11_thingOf
  refine hv_iload_n hc dX11_thingOf_0 rfl (hv_m 1 rfl) ?_
  refine hv_istore_n (lv' := [(3, .int (hv_I x1)), (0, .ref (hv_ad X 65)), (1, .int (hv_I x1)), (2, .int (hv_I x2))]) hc dX11_thingOf_1 rfl (by decide) rfl ?_
  refine hv_iconst hc dX11_thingOf_2 ?_
  refine hv_istore (lv' := [(4, .int (hv_I 0)), (3, .int (hv_I x1)), (0, .ref (hv_ad X 65)), (1, .int (hv_I x1)), (2, .int (hv_I x2))]) hc dX11_thingOf_3 (by decide) rfl ?_
  exact hv_pick [2, 4, 1, 0] rfl (g_X11_thingOf_5 hc hv_FU x2 x1 0 mem)
def f_X11_heapOf (x1 : Int) (mem : hMem) : hRs := hv_ald mem 66 216 0 (fun v1 => hv_b (f_X11_makesAll v1 ((-1)) mem) (fun r2 m3 => hv_ald m3 77 30 x1 (fun v4 => hv_ret v4 m3)))
set_option maxRecDepth 100000 in
set_option maxHeartbeats 4000000 in
theorem c_X11_heapOf (x1 : Int) (mem : hMem) : hv_Met 76 0 0 0 yX11_heapOf cX11_heapOf 2 (some FieldType.int) (fun ad _ _ => [.ref (ad 65), .int (hv_I x1)]) mem (f_X11_heapOf x1 mem) := by
  refine hv_start (by decide +kernel) (fun _ _ _ => Nat.le_of_ble_eq_true rfl) ?_
  intro X hc
  have hc : hv_C X cX11_heapOf 2 RX11 (some FieldType.int) 76 0 0 := hc
  show hv_R X 2 0 0 (hv_QX X 0 0 0) (f_X11_heapOf x1 mem) mem [] [(0, .ref (hv_ad X 65)), (1, .int (hv_I x1))] [] 0
  unfold f_X11_heapOf
  refine hv_aload_n hc dX11_heapOf_0 rfl (hv_m 0 rfl) ?_
  refine hv_aload_n hc dX11_heapOf_1 rfl (hv_m 0 rfl) ?_
  refine hv_getR hc fl_X11_9 sh_o_65 rfl dX11_heapOf_2 ?_
  refine hv_iconst hc dX11_heapOf_5 ?_
  refine hv_iaload hc sh_a_66 (Nat.le_of_ble_eq_true rfl) dX11_heapOf_6 (fun v1 => ?_)
  refine hv_iconst hc dX11_heapOf_7 ?_
  refine hv_callVv hc (c_X11_makesAll v1 ((-1)) mem) yv_X11_makesAll tw_1316 sh_o_65 rfl rfl rfl rfl (Nat.le_of_ble_eq_true rfl) (Nat.le_of_ble_eq_true rfl) (Nat.zero_le _) (Nat.zero_le _) dX11_heapOf_8 (fun r2 m3 => ?_)
  refine hv_aload_n hc dX11_heapOf_11 rfl (hv_m 0 rfl) ?_
  refine hv_getR hc fl_X11_48 sh_o_65 rfl dX11_heapOf_12 ?_
  refine hv_iload_n hc dX11_heapOf_15 rfl (hv_m 1 rfl) ?_
  refine hv_iaload hc sh_a_77 (Nat.le_of_ble_eq_true rfl) dX11_heapOf_16 (fun v4 => ?_)
  exact hv_iret hc dX11_heapOf_17
def B_X11_countsHeap_30 (rf0 : Int → hMem → hRs) (rf1 : Int → hMem → hRs) (R30 : Int → Int → hMem → hRs) (x2 x3 : Int) (mem : hMem) : hRs := hv_lt x3 0 (hv_ret x2 mem) (hv_ald mem 75 40000 x3 (fun v1 => hv_b (rf1 v1 mem) (fun r2 m3 => hv_set (x2 + r2) (fun y4 => hv_ald m3 76 40000 x3 (fun v5 => R30 y4 v5 m3)))))
def L_X11_countsHeap_30 (rf0 : Int → hMem → hRs) (rf1 : Int → hMem → hRs) : Nat → Int → Int → hMem → hRs
  | 0 => fun _ _ _ => none
  | n + 1 => B_X11_countsHeap_30 rf0 rf1 (L_X11_countsHeap_30 rf0 rf1 n)
set_option maxRecDepth 100000 in
theorem gB_X11_countsHeap_30 {X : hv_X} {d : Nat} (hc : hv_C X cX11_countsHeap 4 RX11 (some FieldType.int) (d + 1 + 1) 0 0) (rf0 : Int → hMem → hRs) (hrf0 : ∀ (x1 : Int) (mem : hMem), hv_Met (d + 1) 0 0 0 yX11_countsHeap cX11_countsHeap 4 (some FieldType.int) (fun ad _ _ => [.ref (ad 65), .int (hv_I x1)]) mem (rf0 x1 mem)) (rf1 : Int → hMem → hRs) (hrf1 : ∀ (x1 : Int) (mem : hMem), hv_Met (d + 1) 0 0 0 yX11_countsTree cX11_countsTree 4 (some FieldType.int) (fun ad _ _ => [.ref (ad 65), .int (hv_I x1)]) mem (rf1 x1 mem)) (R30 : Int → Int → hMem → hRs) (hR30 : ∀ (x2 x3 : Int) (mem : hMem), hv_R X 4 0 0 (hv_QX X 0 0 0) (R30 x2 x3 mem) mem [] [(0, .ref (hv_ad X 65)), (2, .int (hv_I x2)), (3, .int (hv_I x3))] [] 30) (x2 x3 : Int) (mem : hMem) : hv_R X 4 0 0 (hv_QX X 0 0 0) (B_X11_countsHeap_30 rf0 rf1 R30 x2 x3 mem) mem [] [(0, .ref (hv_ad X 65)), (2, .int (hv_I x2)), (3, .int (hv_I x3))] [] 30 := by
  unfold B_X11_countsHeap_30
  refine hv_iload_n hc dX11_countsHeap_30 rfl (hv_m 2 rfl) ?_
  refine hv_if_lt (tgt := 57) hc dX11_countsHeap_31 (by decide) ?_ ?_
  · refine hv_iload_n hc dX11_countsHeap_57 rfl (hv_m 1 rfl) ?_
    exact hv_iret hc dX11_countsHeap_58
  · refine hv_iload_n hc dX11_countsHeap_34 rfl (hv_m 1 rfl) ?_
    refine hv_aload_n hc dX11_countsHeap_35 rfl (hv_m 0 rfl) ?_
    refine hv_aload_n hc dX11_countsHeap_36 rfl (hv_m 0 rfl) ?_
    refine hv_getR hc fl_X11_42 sh_o_65 rfl dX11_countsHeap_37 ?_
    refine hv_iload_n hc dX11_countsHeap_40 rfl (hv_m 2 rfl) ?_
    refine hv_iaload hc sh_a_75 (Nat.le_of_ble_eq_true rfl) dX11_countsHeap_41 (fun v1 => ?_)
    refine hv_callVi hc (hrf1 v1 mem) yv_X11_countsTree tw_1400 sh_o_65 rfl rfl rfl rfl (Nat.le_of_ble_eq_true rfl) (by omega) (Nat.zero_le _) (Nat.zero_le _) dX11_countsHeap_42 (fun r2 m3 => ?_)
    refine hv_iadd hc dX11_countsHeap_45 ?_
    refine hv_istore_ns (lvf := fun y4 => [(2, .int (hv_I y4)), (0, .ref (hv_ad X 65)), (3, .int (hv_I x3))]) hc dX11_countsHeap_46 rfl (by decide) (fun _ => rfl) (fun y4 => ?_)
    refine hv_aload_n hc dX11_countsHeap_47 rfl (hv_m 1 rfl) ?_
    refine hv_getR hc fl_X11_45 sh_o_65 rfl dX11_countsHeap_48 ?_
    refine hv_iload_n hc dX11_countsHeap_51 rfl (hv_m 2 rfl) ?_
    refine hv_iaload hc sh_a_76 (Nat.le_of_ble_eq_true rfl) dX11_countsHeap_52 (fun v5 => ?_)
    refine hv_istore_n (lv' := [(3, .int (hv_I v5)), (2, .int (hv_I y4)), (0, .ref (hv_ad X 65))]) hc dX11_countsHeap_53 rfl (by decide) rfl ?_
    refine hv_goto (tgt := 30) hc dX11_countsHeap_54 (by decide) ?_
    exact hv_pick [2, 1, 0] rfl (hR30 y4 v5 m3)
theorem g_X11_countsHeap_30 {X : hv_X} {d : Nat} (hc : hv_C X cX11_countsHeap 4 RX11 (some FieldType.int) (d + 1 + 1) 0 0) (rf0 : Int → hMem → hRs) (hrf0 : ∀ (x1 : Int) (mem : hMem), hv_Met (d + 1) 0 0 0 yX11_countsHeap cX11_countsHeap 4 (some FieldType.int) (fun ad _ _ => [.ref (ad 65), .int (hv_I x1)]) mem (rf0 x1 mem)) (rf1 : Int → hMem → hRs) (hrf1 : ∀ (x1 : Int) (mem : hMem), hv_Met (d + 1) 0 0 0 yX11_countsTree cX11_countsTree 4 (some FieldType.int) (fun ad _ _ => [.ref (ad 65), .int (hv_I x1)]) mem (rf1 x1 mem)) : ∀ (n : Nat) (x2 x3 : Int) (mem : hMem), hv_R X 4 0 0 (hv_QX X 0 0 0) (L_X11_countsHeap_30 rf0 rf1 n x2 x3 mem) mem [] [(0, .ref (hv_ad X 65)), (2, .int (hv_I x2)), (3, .int (hv_I x3))] [] 30 := by
  intro n
  induction n with
  | zero => intros; exact hv_none
  | succ n ih => exact gB_X11_countsHeap_30 hc rf0 hrf0 rf1 hrf1 _ ih
def fs_X11_countsHeap (rf0 : Int → hMem → hRs) (rf1 : Int → hMem → hRs) (x1 : Int) (mem : hMem) : hRs := hv_lt x1 0 (hv_ret 0 mem) (hv_ald mem 69 8000 x1 (fun v1 => hv_ald mem 79 30 v1 (fun v2 => hv_ast mem 79 30 v1 (v2 + 1) (fun m3 => hv_ald m3 70 8000 x1 (fun v4 => L_X11_countsHeap_30 rf0 rf1 hv_FU 1 v4 m3)))))
set_option maxRecDepth 100000 in
set_option maxHeartbeats 4000000 in
theorem cs_X11_countsHeap (d : Nat) (rf0 : Int → hMem → hRs) (hrf0 : ∀ (x1 : Int) (mem : hMem), hv_Met (d + 1) 0 0 0 yX11_countsHeap cX11_countsHeap 4 (some FieldType.int) (fun ad _ _ => [.ref (ad 65), .int (hv_I x1)]) mem (rf0 x1 mem)) (rf1 : Int → hMem → hRs) (hrf1 : ∀ (x1 : Int) (mem : hMem), hv_Met (d + 1) 0 0 0 yX11_countsTree cX11_countsTree 4 (some FieldType.int) (fun ad _ _ => [.ref (ad 65), .int (hv_I x1)]) mem (rf1 x1 mem)) (x1 : Int) (mem : hMem) : hv_Met (d + 1 + 1) 0 0 0 yX11_countsHeap cX11_countsHeap 4 (some FieldType.int) (fun ad _ _ => [.ref (ad 65), .int (hv_I x1)]) mem (fs_X11_countsHeap rf0 rf1 x1 mem) := by
  refine hv_start (by decide +kernel) (fun _ _ _ => Nat.le_of_ble_eq_true rfl) ?_
  intro X hc
  have hc : hv_C X cX11_countsHeap 4 RX11 (some FieldType.int) (d + 1 + 1) 0 0 := hc
  show hv_R X 4 0 0 (hv_QX X 0 0 0) (fs_X11_countsHeap rf0 rf1 x1 mem) mem [] [(0, .ref (hv_ad X 65)), (1, .int (hv_I x1))] [] 0
  unfold fs_X11_countsHeap
  refine hv_iload_n hc dX11_countsHeap_0 rfl (hv_m 1 rfl) ?_
  refine hv_if_ge (tgt := 6) hc dX11_countsHeap_1 (by decide) ?_ ?_
  · refine hv_aload_n hc dX11_countsHeap_6 rfl (hv_m 0 rfl) ?_
    refine hv_getR hc fl_X11_54 sh_o_65 rfl dX11_countsHeap_7 ?_
    refine hv_aload_n hc dX11_countsHeap_10 rfl (hv_m 0 rfl) ?_
    refine hv_getR hc fl_X11_23 sh_o_65 rfl dX11_countsHeap_11 ?_
    refine hv_iload_n hc dX11_countsHeap_14 rfl (hv_m 1 rfl) ?_
    refine hv_iaload hc sh_a_69 (Nat.le_of_ble_eq_true rfl) dX11_countsHeap_15 (fun v1 => ?_)
    refine hv_dup2 hc dX11_countsHeap_16 rfl rfl ?_
    refine hv_iaload hc sh_a_79 (Nat.le_of_ble_eq_true rfl) dX11_countsHeap_17 (fun v2 => ?_)
    refine hv_iconst hc dX11_countsHeap_18 ?_
    refine hv_iadd hc dX11_countsHeap_19 ?_
    refine hv_iastore hc sh_a_79 (Nat.le_of_ble_eq_true rfl) dX11_countsHeap_20 (fun m3 => ?_)
    refine hv_iconst hc dX11_countsHeap_21 ?_
    refine hv_istore_n (lv' := [(2, .int (hv_I 1)), (0, .ref (hv_ad X 65)), (1, .int (hv_I x1))]) hc dX11_countsHeap_22 rfl (by decide) rfl ?_
    refine hv_aload_n hc dX11_countsHeap_23 rfl (hv_m 1 rfl) ?_
    refine hv_getR hc fl_X11_26 sh_o_65 rfl dX11_countsHeap_24 ?_
    refine hv_iload_n hc dX11_countsHeap_27 rfl (hv_m 2 rfl) ?_
    refine hv_iaload hc sh_a_70 (Nat.le_of_ble_eq_true rfl) dX11_countsHeap_28 (fun v4 => ?_)
    refine hv_istore_n (lv' := [(3, .int (hv_I v4)), (2, .int (hv_I 1)), (0, .ref (hv_ad X 65)), (1, .int (hv_I x1))]) hc dX11_countsHeap_29 rfl (by decide) rfl ?_
    exact hv_pick [2, 1, 0] rfl (g_X11_countsHeap_30 hc rf0 hrf0 rf1 hrf1 hv_FU 1 v4 m3)
  · refine hv_iconst hc dX11_countsHeap_4 ?_
    exact hv_iret hc dX11_countsHeap_5
def B_X11_countsTree_52 (rf0 : Int → hMem → hRs) (rf1 : Int → hMem → hRs) (R52 : Int → Int → hMem → hRs) (x2 x3 : Int) (mem : hMem) : hRs := hv_lt x3 0 (hv_ret x2 mem) (hv_ald mem 75 40000 x3 (fun v1 => hv_b (rf1 v1 mem) (fun r2 m3 => hv_set (x2 + r2) (fun y4 => hv_ald m3 76 40000 x3 (fun v5 => R52 y4 v5 m3)))))
def L_X11_countsTree_52 (rf0 : Int → hMem → hRs) (rf1 : Int → hMem → hRs) : Nat → Int → Int → hMem → hRs
  | 0 => fun _ _ _ => none
  | n + 1 => B_X11_countsTree_52 rf0 rf1 (L_X11_countsTree_52 rf0 rf1 n)
set_option maxRecDepth 100000 in
theorem gB_X11_countsTree_52 {X : hv_X} {d : Nat} (hc : hv_C X cX11_countsTree 4 RX11 (some FieldType.int) (d + 1 + 1) 0 0) (rf0 : Int → hMem → hRs) (hrf0 : ∀ (x1 : Int) (mem : hMem), hv_Met (d + 1) 0 0 0 yX11_countsHeap cX11_countsHeap 4 (some FieldType.int) (fun ad _ _ => [.ref (ad 65), .int (hv_I x1)]) mem (rf0 x1 mem)) (rf1 : Int → hMem → hRs) (hrf1 : ∀ (x1 : Int) (mem : hMem), hv_Met (d + 1) 0 0 0 yX11_countsTree cX11_countsTree 4 (some FieldType.int) (fun ad _ _ => [.ref (ad 65), .int (hv_I x1)]) mem (rf1 x1 mem)) (R52 : Int → Int → hMem → hRs) (hR52 : ∀ (x2 x3 : Int) (mem : hMem), hv_R X 4 0 0 (hv_QX X 0 0 0) (R52 x2 x3 mem) mem [] [(0, .ref (hv_ad X 65)), (2, .int (hv_I x2)), (3, .int (hv_I x3))] [] 52) (x2 x3 : Int) (mem : hMem) : hv_R X 4 0 0 (hv_QX X 0 0 0) (B_X11_countsTree_52 rf0 rf1 R52 x2 x3 mem) mem [] [(0, .ref (hv_ad X 65)), (2, .int (hv_I x2)), (3, .int (hv_I x3))] [] 52 := by
  unfold B_X11_countsTree_52
  refine hv_iload_n hc dX11_countsTree_52 rfl (hv_m 2 rfl) ?_
  refine hv_if_lt (tgt := 79) hc dX11_countsTree_53 (by decide) ?_ ?_
  · refine hv_iload_n hc dX11_countsTree_79 rfl (hv_m 1 rfl) ?_
    exact hv_iret hc dX11_countsTree_80
  · refine hv_iload_n hc dX11_countsTree_56 rfl (hv_m 1 rfl) ?_
    refine hv_aload_n hc dX11_countsTree_57 rfl (hv_m 0 rfl) ?_
    refine hv_aload_n hc dX11_countsTree_58 rfl (hv_m 0 rfl) ?_
    refine hv_getR hc fl_X11_42 sh_o_65 rfl dX11_countsTree_59 ?_
    refine hv_iload_n hc dX11_countsTree_62 rfl (hv_m 2 rfl) ?_
    refine hv_iaload hc sh_a_75 (Nat.le_of_ble_eq_true rfl) dX11_countsTree_63 (fun v1 => ?_)
    refine hv_callVi hc (hrf1 v1 mem) yv_X11_countsTree tw_1400 sh_o_65 rfl rfl rfl rfl (Nat.le_of_ble_eq_true rfl) (by omega) (Nat.zero_le _) (Nat.zero_le _) dX11_countsTree_64 (fun r2 m3 => ?_)
    refine hv_iadd hc dX11_countsTree_67 ?_
    refine hv_istore_ns (lvf := fun y4 => [(2, .int (hv_I y4)), (0, .ref (hv_ad X 65)), (3, .int (hv_I x3))]) hc dX11_countsTree_68 rfl (by decide) (fun _ => rfl) (fun y4 => ?_)
    refine hv_aload_n hc dX11_countsTree_69 rfl (hv_m 1 rfl) ?_
    refine hv_getR hc fl_X11_45 sh_o_65 rfl dX11_countsTree_70 ?_
    refine hv_iload_n hc dX11_countsTree_73 rfl (hv_m 2 rfl) ?_
    refine hv_iaload hc sh_a_76 (Nat.le_of_ble_eq_true rfl) dX11_countsTree_74 (fun v5 => ?_)
    refine hv_istore_n (lv' := [(3, .int (hv_I v5)), (2, .int (hv_I y4)), (0, .ref (hv_ad X 65))]) hc dX11_countsTree_75 rfl (by decide) rfl ?_
    refine hv_goto (tgt := 52) hc dX11_countsTree_76 (by decide) ?_
    exact hv_pick [2, 1, 0] rfl (hR52 y4 v5 m3)
theorem g_X11_countsTree_52 {X : hv_X} {d : Nat} (hc : hv_C X cX11_countsTree 4 RX11 (some FieldType.int) (d + 1 + 1) 0 0) (rf0 : Int → hMem → hRs) (hrf0 : ∀ (x1 : Int) (mem : hMem), hv_Met (d + 1) 0 0 0 yX11_countsHeap cX11_countsHeap 4 (some FieldType.int) (fun ad _ _ => [.ref (ad 65), .int (hv_I x1)]) mem (rf0 x1 mem)) (rf1 : Int → hMem → hRs) (hrf1 : ∀ (x1 : Int) (mem : hMem), hv_Met (d + 1) 0 0 0 yX11_countsTree cX11_countsTree 4 (some FieldType.int) (fun ad _ _ => [.ref (ad 65), .int (hv_I x1)]) mem (rf1 x1 mem)) : ∀ (n : Nat) (x2 x3 : Int) (mem : hMem), hv_R X 4 0 0 (hv_QX X 0 0 0) (L_X11_countsTree_52 rf0 rf1 n x2 x3 mem) mem [] [(0, .ref (hv_ad X 65)), (2, .int (hv_I x2)), (3, .int (hv_I x3))] [] 52 := by
  intro n
  induction n with
  | zero => intros; exact hv_none
  | succ n ih => exact gB_X11_countsTree_52 hc rf0 hrf0 rf1 hrf1 _ ih
def B_X11_countsTree_18 (rf0 : Int → hMem → hRs) (rf1 : Int → hMem → hRs) (R18 : Int → Int → Int → hMem → hRs) (x1 x2 x3 : Int) (mem : hMem) : hRs := hv_lt x3 0 (hv_ald mem 74 8000 x1 (fun v1 => L_X11_countsTree_52 rf0 rf1 hv_FU x2 v1 mem)) (hv_ald mem 75 40000 x3 (fun v2 => hv_b (rf0 v2 mem) (fun r3 m4 => hv_set (x2 + r3) (fun y5 => hv_ald m4 76 40000 x3 (fun v6 => R18 x1 y5 v6 m4)))))
def L_X11_countsTree_18 (rf0 : Int → hMem → hRs) (rf1 : Int → hMem → hRs) : Nat → Int → Int → Int → hMem → hRs
  | 0 => fun _ _ _ _ => none
  | n + 1 => B_X11_countsTree_18 rf0 rf1 (L_X11_countsTree_18 rf0 rf1 n)
set_option maxRecDepth 100000 in
theorem gB_X11_countsTree_18 {X : hv_X} {d : Nat} (hc : hv_C X cX11_countsTree 4 RX11 (some FieldType.int) (d + 1 + 1) 0 0) (rf0 : Int → hMem → hRs) (hrf0 : ∀ (x1 : Int) (mem : hMem), hv_Met (d + 1) 0 0 0 yX11_countsHeap cX11_countsHeap 4 (some FieldType.int) (fun ad _ _ => [.ref (ad 65), .int (hv_I x1)]) mem (rf0 x1 mem)) (rf1 : Int → hMem → hRs) (hrf1 : ∀ (x1 : Int) (mem : hMem), hv_Met (d + 1) 0 0 0 yX11_countsTree cX11_countsTree 4 (some FieldType.int) (fun ad _ _ => [.ref (ad 65), .int (hv_I x1)]) mem (rf1 x1 mem)) (R18 : Int → Int → Int → hMem → hRs) (hR18 : ∀ (x1 x2 x3 : Int) (mem : hMem), hv_R X 4 0 0 (hv_QX X 0 0 0) (R18 x1 x2 x3 mem) mem [] [(0, .ref (hv_ad X 65)), (1, .int (hv_I x1)), (2, .int (hv_I x2)), (3, .int (hv_I x3))] [] 18) (x1 x2 x3 : Int) (mem : hMem) : hv_R X 4 0 0 (hv_QX X 0 0 0) (B_X11_countsTree_18 rf0 rf1 R18 x1 x2 x3 mem) mem [] [(0, .ref (hv_ad X 65)), (1, .int (hv_I x1)), (2, .int (hv_I x2)), (3, .int (hv_I x3))] [] 18 := by
  unfold B_X11_countsTree_18
  refine hv_iload_n hc dX11_countsTree_18 rfl (hv_m 3 rfl) ?_
  refine hv_if_lt (tgt := 45) hc dX11_countsTree_19 (by decide) ?_ ?_
  · refine hv_aload_n hc dX11_countsTree_45 rfl (hv_m 0 rfl) ?_
    refine hv_getR hc fl_X11_38 sh_o_65 rfl dX11_countsTree_46 ?_
    refine hv_iload_n hc dX11_countsTree_49 rfl (hv_m 1 rfl) ?_
    refine hv_iaload hc sh_a_74 (Nat.le_of_ble_eq_true rfl) dX11_countsTree_50 (fun v1 => ?_)
    refine hv_istore_n (lv' := [(3, .int (hv_I v1)), (0, .ref (hv_ad X 65)), (1, .int (hv_I x1)), (2, .int (hv_I x2))]) hc dX11_countsTree_51 rfl (by decide) rfl ?_
    exact hv_pick [1, 3, 0] rfl (g_X11_countsTree_52 hc rf0 hrf0 rf1 hrf1 hv_FU x2 v1 mem)
  · refine hv_iload_n hc dX11_countsTree_22 rfl (hv_m 2 rfl) ?_
    refine hv_aload_n hc dX11_countsTree_23 rfl (hv_m 0 rfl) ?_
    refine hv_aload_n hc dX11_countsTree_24 rfl (hv_m 0 rfl) ?_
    refine hv_getR hc fl_X11_42 sh_o_65 rfl dX11_countsTree_25 ?_
    refine hv_iload_n hc dX11_countsTree_28 rfl (hv_m 3 rfl) ?_
    refine hv_iaload hc sh_a_75 (Nat.le_of_ble_eq_true rfl) dX11_countsTree_29 (fun v2 => ?_)
    refine hv_callVi hc (hrf0 v2 mem) yv_X11_countsHeap tw_1396 sh_o_65 rfl rfl rfl rfl (Nat.le_of_ble_eq_true rfl) (by omega) (Nat.zero_le _) (Nat.zero_le _) dX11_countsTree_30 (fun r3 m4 => ?_)
    refine hv_iadd hc dX11_countsTree_33 ?_
    refine hv_istore_ns (lvf := fun y5 => [(2, .int (hv_I y5)), (0, .ref (hv_ad X 65)), (1, .int (hv_I x1)), (3, .int (hv_I x3))]) hc dX11_countsTree_34 rfl (by decide) (fun _ => rfl) (fun y5 => ?_)
    refine hv_aload_n hc dX11_countsTree_35 rfl (hv_m 1 rfl) ?_
    refine hv_getR hc fl_X11_45 sh_o_65 rfl dX11_countsTree_36 ?_
    refine hv_iload_n hc dX11_countsTree_39 rfl (hv_m 3 rfl) ?_
    refine hv_iaload hc sh_a_76 (Nat.le_of_ble_eq_true rfl) dX11_countsTree_40 (fun v6 => ?_)
    refine hv_istore_n (lv' := [(3, .int (hv_I v6)), (2, .int (hv_I y5)), (0, .ref (hv_ad X 65)), (1, .int (hv_I x1))]) hc dX11_countsTree_41 rfl (by decide) rfl ?_
    refine hv_goto (tgt := 18) hc dX11_countsTree_42 (by decide) ?_
    exact hv_pick [2, 3, 1, 0] rfl (hR18 x1 y5 v6 m4)
theorem g_X11_countsTree_18 {X : hv_X} {d : Nat} (hc : hv_C X cX11_countsTree 4 RX11 (some FieldType.int) (d + 1 + 1) 0 0) (rf0 : Int → hMem → hRs) (hrf0 : ∀ (x1 : Int) (mem : hMem), hv_Met (d + 1) 0 0 0 yX11_countsHeap cX11_countsHeap 4 (some FieldType.int) (fun ad _ _ => [.ref (ad 65), .int (hv_I x1)]) mem (rf0 x1 mem)) (rf1 : Int → hMem → hRs) (hrf1 : ∀ (x1 : Int) (mem : hMem), hv_Met (d + 1) 0 0 0 yX11_countsTree cX11_countsTree 4 (some FieldType.int) (fun ad _ _ => [.ref (ad 65), .int (hv_I x1)]) mem (rf1 x1 mem)) : ∀ (n : Nat) (x1 x2 x3 : Int) (mem : hMem), hv_R X 4 0 0 (hv_QX X 0 0 0) (L_X11_countsTree_18 rf0 rf1 n x1 x2 x3 mem) mem [] [(0, .ref (hv_ad X 65)), (1, .int (hv_I x1)), (2, .int (hv_I x2)), (3, .int (hv_I x3))] [] 18 := by
  intro n
  induction n with
  | zero => intros; exact hv_none
  | succ n ih => exact gB_X11_countsTree_18 hc rf0 hrf0 rf1 hrf1 _ ih
def fs_X11_countsTree (rf0 : Int → hMem → hRs) (rf1 : Int → hMem → hRs) (x1 : Int) (mem : hMem) : hRs := hv_ald mem 72 8000 x1 (fun v1 => hv_b (rf0 v1 mem) (fun r2 m3 => hv_ald m3 73 8000 x1 (fun v4 => L_X11_countsTree_18 rf0 rf1 hv_FU x1 r2 v4 m3)))
set_option maxRecDepth 100000 in
set_option maxHeartbeats 4000000 in
theorem cs_X11_countsTree (d : Nat) (rf0 : Int → hMem → hRs) (hrf0 : ∀ (x1 : Int) (mem : hMem), hv_Met (d + 1) 0 0 0 yX11_countsHeap cX11_countsHeap 4 (some FieldType.int) (fun ad _ _ => [.ref (ad 65), .int (hv_I x1)]) mem (rf0 x1 mem)) (rf1 : Int → hMem → hRs) (hrf1 : ∀ (x1 : Int) (mem : hMem), hv_Met (d + 1) 0 0 0 yX11_countsTree cX11_countsTree 4 (some FieldType.int) (fun ad _ _ => [.ref (ad 65), .int (hv_I x1)]) mem (rf1 x1 mem)) (x1 : Int) (mem : hMem) : hv_Met (d + 1 + 1) 0 0 0 yX11_countsTree cX11_countsTree 4 (some FieldType.int) (fun ad _ _ => [.ref (ad 65), .int (hv_I x1)]) mem (fs_X11_countsTree rf0 rf1 x1 mem) := by
  refine hv_start (by decide +kernel) (fun _ _ _ => Nat.le_of_ble_eq_true rfl) ?_
  intro X hc
  have hc : hv_C X cX11_countsTree 4 RX11 (some FieldType.int) (d + 1 + 1) 0 0 := hc
  show hv_R X 4 0 0 (hv_QX X 0 0 0) (fs_X11_countsTree rf0 rf1 x1 mem) mem [] [(0, .ref (hv_ad X 65)), (1, .int (hv_I x1))] [] 0
  unfold fs_X11_countsTree
  refine hv_aload_n hc dX11_countsTree_0 rfl (hv_m 0 rfl) ?_
  refine hv_aload_n hc dX11_countsTree_1 rfl (hv_m 0 rfl) ?_
  refine hv_getR hc fl_X11_32 sh_o_65 rfl dX11_countsTree_2 ?_
  refine hv_iload_n hc dX11_countsTree_5 rfl (hv_m 1 rfl) ?_
  refine hv_iaload hc sh_a_72 (Nat.le_of_ble_eq_true rfl) dX11_countsTree_6 (fun v1 => ?_)
  refine hv_callVi hc (hrf0 v1 mem) yv_X11_countsHeap tw_1396 sh_o_65 rfl rfl rfl rfl (Nat.le_of_ble_eq_true rfl) (by omega) (Nat.zero_le _) (Nat.zero_le _) dX11_countsTree_7 (fun r2 m3 => ?_)
  refine hv_istore_n (lv' := [(2, .int (hv_I r2)), (0, .ref (hv_ad X 65)), (1, .int (hv_I x1))]) hc dX11_countsTree_10 rfl (by decide) rfl ?_
  refine hv_aload_n hc dX11_countsTree_11 rfl (hv_m 1 rfl) ?_
  refine hv_getR hc fl_X11_35 sh_o_65 rfl dX11_countsTree_12 ?_
  refine hv_iload_n hc dX11_countsTree_15 rfl (hv_m 2 rfl) ?_
  refine hv_iaload hc sh_a_73 (Nat.le_of_ble_eq_true rfl) dX11_countsTree_16 (fun v4 => ?_)
  refine hv_istore_n (lv' := [(3, .int (hv_I v4)), (2, .int (hv_I r2)), (0, .ref (hv_ad X 65)), (1, .int (hv_I x1))]) hc dX11_countsTree_17 rfl (by decide) rfl ?_
  exact hv_pick [2, 3, 1, 0] rfl (g_X11_countsTree_18 hc rf0 hrf0 rf1 hrf1 hv_FU x1 r2 v4 m3)
def rr_counts : Nat → Bool → Int → hMem → hRs
  | 0 => fun _ _ _ => none
  | d + 1 => fun w x1 mem => if w = true then fs_X11_countsHeap (rr_counts d true) (rr_counts d false) x1 mem else fs_X11_countsTree (rr_counts d true) (rr_counts d false) x1 mem
theorem cr_counts : ∀ d : Nat, (∀ (x1 : Int) (mem : hMem), hv_Met (d + 1) 0 0 0 yX11_countsHeap cX11_countsHeap 4 (some FieldType.int) (fun ad _ _ => [.ref (ad 65), .int (hv_I x1)]) mem (rr_counts d true x1 mem)) ∧ (∀ (x1 : Int) (mem : hMem), hv_Met (d + 1) 0 0 0 yX11_countsTree cX11_countsTree 4 (some FieldType.int) (fun ad _ _ => [.ref (ad 65), .int (hv_I x1)]) mem (rr_counts d false x1 mem)) := by
  intro d
  induction d with
  | zero => exact ⟨(fun x1 mem l D ca ad ak av sz r m' ht => by cases ht), (fun x1 mem l D ca ad ak av sz r m' ht => by cases ht)⟩
  | succ d ih => exact ⟨(fun x1 mem => cs_X11_countsHeap d _ ih.1 _ ih.2 x1 mem), (fun x1 mem => cs_X11_countsTree d _ ih.1 _ ih.2 x1 mem)⟩
def f_X11_countsHeap (x1 : Int) (mem : hMem) : hRs := rr_counts 64 true x1 mem
theorem c_X11_countsHeap (x1 : Int) (mem : hMem) : hv_Met 65 0 0 0 yX11_countsHeap cX11_countsHeap 4 (some FieldType.int) (fun ad _ _ => [.ref (ad 65), .int (hv_I x1)]) mem (f_X11_countsHeap x1 mem) := (cr_counts 64).1 x1 mem
def f_X11_countsTree (x1 : Int) (mem : hMem) : hRs := rr_counts 64 false x1 mem
theorem c_X11_countsTree (x1 : Int) (mem : hMem) : hv_Met 65 0 0 0 yX11_countsTree cX11_countsTree 4 (some FieldType.int) (fun ad _ _ => [.ref (ad 65), .int (hv_I x1)]) mem (f_X11_countsTree x1 mem) := (cr_counts 64).2 x1 mem
def B_X11_counts_2 (R2 : Int → Int → hMem → hRs) (x1 x2 : Int) (mem : hMem) : hRs := hv_lt x2 30 (hv_ast mem 79 30 x2 0 (fun m3 => hv_set (x2 + 1) (fun y4 => R2 x1 y4 m3))) (hv_b (f_X11_countsHeap x1 mem) (fun r1 m2 => hv_ret r1 m2))
def L_X11_counts_2 : Nat → Int → Int → hMem → hRs
  | 0 => fun _ _ _ => none
  | n + 1 => B_X11_counts_2 (L_X11_counts_2 n)
set_option maxRecDepth 100000 in
theorem gB_X11_counts_2 {X : hv_X} (hc : hv_C X cX11_counts 3 RX11 (some FieldType.int) 66 0 0) (R2 : Int → Int → hMem → hRs) (hR2 : ∀ (x1 x2 : Int) (mem : hMem), hv_R X 3 0 0 (hv_QX X 0 0 0) (R2 x1 x2 mem) mem [] [(0, .ref (hv_ad X 65)), (1, .int (hv_I x1)), (2, .int (hv_I x2))] [] 2) (x1 x2 : Int) (mem : hMem) : hv_R X 3 0 0 (hv_QX X 0 0 0) (B_X11_counts_2 R2 x1 x2 mem) mem [] [(0, .ref (hv_ad X 65)), (1, .int (hv_I x1)), (2, .int (hv_I x2))] [] 2 := by
  unfold B_X11_counts_2
  refine hv_iload_n hc dX11_counts_2 rfl (hv_m 2 rfl) ?_
  refine hv_bipush hc dX11_counts_3 (by decide) ?_
  refine hv_icmp_ge (tgt := 21) hc dX11_counts_5 (by decide) ?_ ?_
  · refine hv_aload_n hc dX11_counts_21 rfl (hv_m 0 rfl) ?_
    refine hv_iload_n hc dX11_counts_22 rfl (hv_m 1 rfl) ?_
    refine hv_callVi hc (c_X11_countsHeap x1 mem) yv_X11_countsHeap tw_1396 sh_o_65 rfl rfl rfl rfl (Nat.le_of_ble_eq_true rfl) (Nat.le_of_ble_eq_true rfl) (Nat.zero_le _) (Nat.zero_le _) dX11_counts_23 (fun r1 m2 => ?_)
    exact hv_iret hc dX11_counts_26
  · refine hv_aload_n hc dX11_counts_8 rfl (hv_m 0 rfl) ?_
    refine hv_getR hc fl_X11_54 sh_o_65 rfl dX11_counts_9 ?_
    refine hv_iload_n hc dX11_counts_12 rfl (hv_m 2 rfl) ?_
    refine hv_iconst hc dX11_counts_13 ?_
    refine hv_iastore hc sh_a_79 (Nat.le_of_ble_eq_true rfl) dX11_counts_14 (fun m3 => ?_)
    refine hv_iinc_s (lvf := fun y4 => [(2, .int (hv_I y4)), (0, .ref (hv_ad X 65)), (1, .int (hv_I x1))]) hc dX11_counts_15 (by decide) (hv_m 2 rfl) (fun _ => rfl) (fun y4 => ?_)
    refine hv_goto (tgt := 2) hc dX11_counts_18 (by decide) ?_
    exact hv_pick [1, 2, 0] rfl (hR2 x1 y4 m3)
theorem g_X11_counts_2 {X : hv_X} (hc : hv_C X cX11_counts 3 RX11 (some FieldType.int) 66 0 0) : ∀ (n : Nat) (x1 x2 : Int) (mem : hMem), hv_R X 3 0 0 (hv_QX X 0 0 0) (L_X11_counts_2 n x1 x2 mem) mem [] [(0, .ref (hv_ad X 65)), (1, .int (hv_I x1)), (2, .int (hv_I x2))] [] 2 := by
  intro n
  induction n with
  | zero => intros; exact hv_none
  | succ n ih => exact gB_X11_counts_2 hc _ ih
def f_X11_counts (x1 : Int) (mem : hMem) : hRs := L_X11_counts_2 hv_FU x1 0 mem
set_option maxRecDepth 100000 in
set_option maxHeartbeats 4000000 in
theorem c_X11_counts (x1 : Int) (mem : hMem) : hv_Met 66 0 0 0 yX11_counts cX11_counts 3 (some FieldType.int) (fun ad _ _ => [.ref (ad 65), .int (hv_I x1)]) mem (f_X11_counts x1 mem) := by
  refine hv_start (by decide +kernel) (fun _ _ _ => Nat.le_of_ble_eq_true rfl) ?_
  intro X hc
  have hc : hv_C X cX11_counts 3 RX11 (some FieldType.int) 66 0 0 := hc
  show hv_R X 3 0 0 (hv_QX X 0 0 0) (f_X11_counts x1 mem) mem [] [(0, .ref (hv_ad X 65)), (1, .int (hv_I x1))] [] 0
  unfold f_X11_counts
  refine hv_iconst hc dX11_counts_0 ?_
  refine hv_istore_n (lv' := [(2, .int (hv_I 0)), (0, .ref (hv_ad X 65)), (1, .int (hv_I x1))]) hc dX11_counts_1 rfl (by decide) rfl ?_
  exact hv_pick [1, 2, 0] rfl (g_X11_counts_2 hc hv_FU x1 0 mem)
def J_X11_ordered_131 (R10 : Int → Int → hMem → hRs) (x2 x3 : Int) (mem : hMem) : hRs := R10 x2 x3 mem
set_option maxRecDepth 100000 in
theorem g_X11_ordered_131 {X : hv_X} (hc : hv_C X cX11_ordered 6 RX11 (some FieldType.int) 67 0 0) (R10 : Int → Int → hMem → hRs) (hR10 : ∀ (x2 x3 : Int) (mem : hMem), hv_R X 6 0 0 (hv_QX X 0 0 0) (R10 x2 x3 mem) mem [] [(0, .ref (hv_ad X 65)), (2, .int (hv_I x2)), (3, .int (hv_I x3))] [] 10) (x2 x3 : Int) (mem : hMem) : hv_R X 6 0 0 (hv_QX X 0 0 0) (J_X11_ordered_131 R10 x2 x3 mem) mem [] [(0, .ref (hv_ad X 65)), (2, .int (hv_I x2)), (3, .int (hv_I x3))] [] 131 := by
  unfold J_X11_ordered_131
  refine hv_goto (tgt := 10) hc dX11_ordered_131 (by decide) ?_
  exact hv_pick [0, 1, 2] rfl (hR10 x2 x3 mem)
def J_X11_ordered_119 (R10 : Int → Int → hMem → hRs) (x2 x3 x4 : Int) (mem : hMem) : hRs := hv_eq x3 0 (J_X11_ordered_131 R10 x2 x3 mem) (hv_ast mem 79 30 x4 0 (fun m1 => J_X11_ordered_131 R10 x2 x3 m1))
set_option maxRecDepth 100000 in
theorem g_X11_ordered_119 {X : hv_X} (hc : hv_C X cX11_ordered 6 RX11 (some FieldType.int) 67 0 0) (R10 : Int → Int → hMem → hRs) (hR10 : ∀ (x2 x3 : Int) (mem : hMem), hv_R X 6 0 0 (hv_QX X 0 0 0) (R10 x2 x3 mem) mem [] [(0, .ref (hv_ad X 65)), (2, .int (hv_I x2)), (3, .int (hv_I x3))] [] 10) (x2 x3 x4 : Int) (mem : hMem) : hv_R X 6 0 0 (hv_QX X 0 0 0) (J_X11_ordered_119 R10 x2 x3 x4 mem) mem [] [(0, .ref (hv_ad X 65)), (2, .int (hv_I x2)), (3, .int (hv_I x3)), (4, .int (hv_I x4))] [] 119 := by
  unfold J_X11_ordered_119
  refine hv_iload_n hc dX11_ordered_119 rfl (hv_m 2 rfl) ?_
  refine hv_if_eq (tgt := 131) hc dX11_ordered_120 (by decide) ?_ ?_
  · exact hv_pick [0, 1, 2] rfl (g_X11_ordered_131 hc R10 hR10 x2 x3 mem)
  · refine hv_aload_n hc dX11_ordered_123 rfl (hv_m 0 rfl) ?_
    refine hv_getR hc fl_X11_54 sh_o_65 rfl dX11_ordered_124 ?_
    refine hv_iload hc dX11_ordered_127 (hv_m 3 rfl) ?_
    refine hv_iconst hc dX11_ordered_129 ?_
    refine hv_iastore hc sh_a_79 (Nat.le_of_ble_eq_true rfl) dX11_ordered_130 (fun m1 => ?_)
    exact hv_pick [0, 1, 2] rfl (g_X11_ordered_131 hc R10 hR10 x2 x3 m1)
def B_X11_ordered_86 (R10 : Int → Int → hMem → hRs) (R86 : Int → Int → Int → Int → hMem → hRs) (x2 x3 x4 x5 : Int) (mem : hMem) : hRs := hv_eq x3 0 (J_X11_ordered_119 R10 x2 x3 x4 mem) (hv_ald mem 79 30 x4 (fun v1 => hv_lt x5 v1 (hv_ast mem 80 54 x2 x4 (fun m2 => hv_set (x2 + 1) (fun y3 => hv_set (x5 + 1) (fun y4 => R86 y3 x3 x4 y4 m2)))) (J_X11_ordered_119 R10 x2 x3 x4 mem)))
def L_X11_ordered_86 (R10 : Int → Int → hMem → hRs) : Nat → Int → Int → Int → Int → hMem → hRs
  | 0 => fun _ _ _ _ _ => none
  | n + 1 => B_X11_ordered_86 R10 (L_X11_ordered_86 R10 n)
set_option maxRecDepth 100000 in
theorem gB_X11_ordered_86 {X : hv_X} (hc : hv_C X cX11_ordered 6 RX11 (some FieldType.int) 67 0 0) (R10 : Int → Int → hMem → hRs) (hR10 : ∀ (x2 x3 : Int) (mem : hMem), hv_R X 6 0 0 (hv_QX X 0 0 0) (R10 x2 x3 mem) mem [] [(0, .ref (hv_ad X 65)), (2, .int (hv_I x2)), (3, .int (hv_I x3))] [] 10) (R86 : Int → Int → Int → Int → hMem → hRs) (hR86 : ∀ (x2 x3 x4 x5 : Int) (mem : hMem), hv_R X 6 0 0 (hv_QX X 0 0 0) (R86 x2 x3 x4 x5 mem) mem [] [(0, .ref (hv_ad X 65)), (2, .int (hv_I x2)), (3, .int (hv_I x3)), (4, .int (hv_I x4)), (5, .int (hv_I x5))] [] 86) (x2 x3 x4 x5 : Int) (mem : hMem) : hv_R X 6 0 0 (hv_QX X 0 0 0) (B_X11_ordered_86 R10 R86 x2 x3 x4 x5 mem) mem [] [(0, .ref (hv_ad X 65)), (2, .int (hv_I x2)), (3, .int (hv_I x3)), (4, .int (hv_I x4)), (5, .int (hv_I x5))] [] 86 := by
  unfold B_X11_ordered_86
  refine hv_iload_n hc dX11_ordered_86 rfl (hv_m 2 rfl) ?_
  refine hv_if_eq (tgt := 119) hc dX11_ordered_87 (by decide) ?_ ?_
  · exact hv_pick [0, 1, 2, 3] rfl (g_X11_ordered_119 hc R10 hR10 x2 x3 x4 mem)
  · refine hv_iload hc dX11_ordered_90 (hv_m 4 rfl) ?_
    refine hv_aload_n hc dX11_ordered_92 rfl (hv_m 0 rfl) ?_
    refine hv_getR hc fl_X11_54 sh_o_65 rfl dX11_ordered_93 ?_
    refine hv_iload hc dX11_ordered_96 (hv_m 3 rfl) ?_
    refine hv_iaload hc sh_a_79 (Nat.le_of_ble_eq_true rfl) dX11_ordered_98 (fun v1 => ?_)
    refine hv_icmp_ge (tgt := 119) hc dX11_ordered_99 (by decide) ?_ ?_
    · exact hv_pick [0, 1, 2, 3] rfl (g_X11_ordered_119 hc R10 hR10 x2 x3 x4 mem)
    · refine hv_aload_n hc dX11_ordered_102 rfl (hv_m 0 rfl) ?_
      refine hv_getR hc fl_X11_57 sh_o_65 rfl dX11_ordered_103 ?_
      refine hv_iload_n hc dX11_ordered_106 rfl (hv_m 1 rfl) ?_
      refine hv_iload hc dX11_ordered_107 (hv_m 3 rfl) ?_
      refine hv_iastore hc sh_a_80 (Nat.le_of_ble_eq_true rfl) dX11_ordered_109 (fun m2 => ?_)
      refine hv_iinc_s (lvf := fun y3 => [(2, .int (hv_I y3)), (0, .ref (hv_ad X 65)), (3, .int (hv_I x3)), (4, .int (hv_I x4)), (5, .int (hv_I x5))]) hc dX11_ordered_110 (by decide) (hv_m 1 rfl) (fun _ => rfl) (fun y3 => ?_)
      refine hv_iinc_s (lvf := fun y4 => [(5, .int (hv_I y4)), (2, .int (hv_I y3)), (0, .ref (hv_ad X 65)), (3, .int (hv_I x3)), (4, .int (hv_I x4))]) hc dX11_ordered_113 (by decide) (hv_m 4 rfl) (fun _ => rfl) (fun y4 => ?_)
      refine hv_goto (tgt := 86) hc dX11_ordered_116 (by decide) ?_
      exact hv_pick [2, 1, 3, 4, 0] rfl (hR86 y3 x3 x4 y4 m2)
theorem g_X11_ordered_86 {X : hv_X} (hc : hv_C X cX11_ordered 6 RX11 (some FieldType.int) 67 0 0) (R10 : Int → Int → hMem → hRs) (hR10 : ∀ (x2 x3 : Int) (mem : hMem), hv_R X 6 0 0 (hv_QX X 0 0 0) (R10 x2 x3 mem) mem [] [(0, .ref (hv_ad X 65)), (2, .int (hv_I x2)), (3, .int (hv_I x3))] [] 10) : ∀ (n : Nat) (x2 x3 x4 x5 : Int) (mem : hMem), hv_R X 6 0 0 (hv_QX X 0 0 0) (L_X11_ordered_86 R10 n x2 x3 x4 x5 mem) mem [] [(0, .ref (hv_ad X 65)), (2, .int (hv_I x2)), (3, .int (hv_I x3)), (4, .int (hv_I x4)), (5, .int (hv_I x5))] [] 86 := by
  intro n
  induction n with
  | zero => intros; exact hv_none
  | succ n ih => exact gB_X11_ordered_86 hc R10 hR10 _ ih
def B_X11_ordered_20 (R10 : Int → Int → hMem → hRs) (R20 : Int → Int → Int → hMem → hRs) (x2 x4 x5 : Int) (mem : hMem) : hRs := hv_ald mem 66 216 3 (fun v1 => hv_lt x5 v1 (hv_ald mem 79 30 x5 (fun v2 => hv_lt 0 v2 (hv_lt x4 0 (hv_set (x5 + 1) (fun y4 => R20 x2 x5 y4 mem)) (hv_b (f_X11_isJobLess x5 x4 mem) (fun r5 m6 => hv_eq r5 0 (hv_set (x5 + 1) (fun y7 => R20 x2 x4 y7 m6)) (hv_set (x5 + 1) (fun y8 => R20 x2 x5 y8 m6))))) (hv_set (x5 + 1) (fun y3 => R20 x2 x4 y3 mem)))) (hv_lt x4 0 (L_X11_ordered_86 R10 hv_FU x2 0 x4 0 mem) (L_X11_ordered_86 R10 hv_FU x2 1 x4 0 mem)))
def L_X11_ordered_20 (R10 : Int → Int → hMem → hRs) : Nat → Int → Int → Int → hMem → hRs
  | 0 => fun _ _ _ _ => none
  | n + 1 => B_X11_ordered_20 R10 (L_X11_ordered_20 R10 n)
set_option maxRecDepth 100000 in
theorem gB_X11_ordered_20 {X : hv_X} (hc : hv_C X cX11_ordered 6 RX11 (some FieldType.int) 67 0 0) (R10 : Int → Int → hMem → hRs) (hR10 : ∀ (x2 x3 : Int) (mem : hMem), hv_R X 6 0 0 (hv_QX X 0 0 0) (R10 x2 x3 mem) mem [] [(0, .ref (hv_ad X 65)), (2, .int (hv_I x2)), (3, .int (hv_I x3))] [] 10) (R20 : Int → Int → Int → hMem → hRs) (hR20 : ∀ (x2 x4 x5 : Int) (mem : hMem), hv_R X 6 0 0 (hv_QX X 0 0 0) (R20 x2 x4 x5 mem) mem [] [(0, .ref (hv_ad X 65)), (2, .int (hv_I x2)), (4, .int (hv_I x4)), (5, .int (hv_I x5))] [] 20) (x2 x4 x5 : Int) (mem : hMem) : hv_R X 6 0 0 (hv_QX X 0 0 0) (B_X11_ordered_20 R10 R20 x2 x4 x5 mem) mem [] [(0, .ref (hv_ad X 65)), (2, .int (hv_I x2)), (4, .int (hv_I x4)), (5, .int (hv_I x5))] [] 20 := by
  unfold B_X11_ordered_20
  refine hv_iload hc dX11_ordered_20 (hv_m 3 rfl) ?_
  refine hv_aload_n hc dX11_ordered_22 rfl (hv_m 0 rfl) ?_
  refine hv_getR hc fl_X11_9 sh_o_65 rfl dX11_ordered_23 ?_
  refine hv_iconst hc dX11_ordered_26 ?_
  refine hv_iaload hc sh_a_66 (Nat.le_of_ble_eq_true rfl) dX11_ordered_27 (fun v1 => ?_)
  refine hv_icmp_ge (tgt := 72) hc dX11_ordered_28 (by decide) ?_ ?_
  · refine hv_iload hc dX11_ordered_72 (hv_m 2 rfl) ?_
    refine hv_if_lt (tgt := 81) hc dX11_ordered_74 (by decide) ?_ ?_
    · refine hv_iconst hc dX11_ordered_81 ?_
      refine hv_istore_n (lv' := [(3, .int (hv_I 0)), (0, .ref (hv_ad X 65)), (2, .int (hv_I x2)), (4, .int (hv_I x4)), (5, .int (hv_I x5))]) hc dX11_ordered_82 rfl (by decide) rfl ?_
      refine hv_iconst hc dX11_ordered_83 ?_
      refine hv_istore (lv' := [(5, .int (hv_I 0)), (3, .int (hv_I 0)), (0, .ref (hv_ad X 65)), (2, .int (hv_I x2)), (4, .int (hv_I x4))]) hc dX11_ordered_84 (by decide) rfl ?_
      exact hv_pick [2, 3, 1, 4, 0] rfl (g_X11_ordered_86 hc R10 hR10 hv_FU x2 0 x4 0 mem)
    · refine hv_iconst hc dX11_ordered_77 ?_
      refine hv_goto (tgt := 82) hc dX11_ordered_78 (by decide) ?_
      refine hv_istore_n (lv' := [(3, .int (hv_I 1)), (0, .ref (hv_ad X 65)), (2, .int (hv_I x2)), (4, .int (hv_I x4)), (5, .int (hv_I x5))]) hc dX11_ordered_82 rfl (by decide) rfl ?_
      refine hv_iconst hc dX11_ordered_83 ?_
      refine hv_istore (lv' := [(5, .int (hv_I 0)), (3, .int (hv_I 1)), (0, .ref (hv_ad X 65)), (2, .int (hv_I x2)), (4, .int (hv_I x4))]) hc dX11_ordered_84 (by decide) rfl ?_
      exact hv_pick [2, 3, 1, 4, 0] rfl (g_X11_ordered_86 hc R10 hR10 hv_FU x2 1 x4 0 mem)
  · refine hv_aload_n hc dX11_ordered_31 rfl (hv_m 0 rfl) ?_
    refine hv_getR hc fl_X11_54 sh_o_65 rfl dX11_ordered_32 ?_
    refine hv_iload hc dX11_ordered_35 (hv_m 3 rfl) ?_
    refine hv_iaload hc sh_a_79 (Nat.le_of_ble_eq_true rfl) dX11_ordered_37 (fun v2 => ?_)
    refine hv_if_le (tgt := 62) hc dX11_ordered_38 (by decide) ?_ ?_
    · refine hv_iload hc dX11_ordered_62 (hv_m 2 rfl) ?_
      refine hv_istore (lv' := [(4, .int (hv_I x4)), (0, .ref (hv_ad X 65)), (2, .int (hv_I x2)), (5, .int (hv_I x5))]) hc dX11_ordered_64 (by decide) rfl ?_
      refine hv_iinc_s (lvf := fun y3 => [(5, .int (hv_I y3)), (4, .int (hv_I x4)), (0, .ref (hv_ad X 65)), (2, .int (hv_I x2))]) hc dX11_ordered_66 (by decide) (hv_m 3 rfl) (fun _ => rfl) (fun y3 => ?_)
      refine hv_goto (tgt := 20) hc dX11_ordered_69 (by decide) ?_
      exact hv_pick [2, 3, 1, 0] rfl (hR20 x2 x4 y3 mem)
    · refine hv_iload hc dX11_ordered_41 (hv_m 2 rfl) ?_
      refine hv_if_lt (tgt := 57) hc dX11_ordered_43 (by decide) ?_ ?_
      · refine hv_iload hc dX11_ordered_57 (hv_m 3 rfl) ?_
        refine hv_goto (tgt := 64) hc dX11_ordered_59 (by decide) ?_
        refine hv_istore (lv' := [(4, .int (hv_I x5)), (0, .ref (hv_ad X 65)), (2, .int (hv_I x2)), (5, .int (hv_I x5))]) hc dX11_ordered_64 (by decide) rfl ?_
        refine hv_iinc_s (lvf := fun y4 => [(5, .int (hv_I y4)), (4, .int (hv_I x5)), (0, .ref (hv_ad X 65)), (2, .int (hv_I x2))]) hc dX11_ordered_66 (by decide) (hv_m 3 rfl) (fun _ => rfl) (fun y4 => ?_)
        refine hv_goto (tgt := 20) hc dX11_ordered_69 (by decide) ?_
        exact hv_pick [2, 3, 1, 0] rfl (hR20 x2 x5 y4 mem)
      · refine hv_aload_n hc dX11_ordered_46 rfl (hv_m 0 rfl) ?_
        refine hv_iload hc dX11_ordered_47 (hv_m 3 rfl) ?_
        refine hv_iload hc dX11_ordered_49 (hv_m 2 rfl) ?_
        refine hv_callVi hc (c_X11_isJobLess x5 x4 mem) yv_X11_isJobLess tw_1332 sh_o_65 rfl rfl rfl rfl (Nat.le_of_ble_eq_true rfl) (Nat.le_of_ble_eq_true rfl) (Nat.zero_le _) (Nat.zero_le _) dX11_ordered_51 (fun r5 m6 => ?_)
        refine hv_if_eq (tgt := 62) hc dX11_ordered_54 (by decide) ?_ ?_
        · refine hv_iload hc dX11_ordered_62 (hv_m 2 rfl) ?_
          refine hv_istore (lv' := [(4, .int (hv_I x4)), (0, .ref (hv_ad X 65)), (2, .int (hv_I x2)), (5, .int (hv_I x5))]) hc dX11_ordered_64 (by decide) rfl ?_
          refine hv_iinc_s (lvf := fun y7 => [(5, .int (hv_I y7)), (4, .int (hv_I x4)), (0, .ref (hv_ad X 65)), (2, .int (hv_I x2))]) hc dX11_ordered_66 (by decide) (hv_m 3 rfl) (fun _ => rfl) (fun y7 => ?_)
          refine hv_goto (tgt := 20) hc dX11_ordered_69 (by decide) ?_
          exact hv_pick [2, 3, 1, 0] rfl (hR20 x2 x4 y7 m6)
        · refine hv_iload hc dX11_ordered_57 (hv_m 3 rfl) ?_
          refine hv_goto (tgt := 64) hc dX11_ordered_59 (by decide) ?_
          refine hv_istore (lv' := [(4, .int (hv_I x5)), (0, .ref (hv_ad X 65)), (2, .int (hv_I x2)), (5, .int (hv_I x5))]) hc dX11_ordered_64 (by decide) rfl ?_
          refine hv_iinc_s (lvf := fun y8 => [(5, .int (hv_I y8)), (4, .int (hv_I x5)), (0, .ref (hv_ad X 65)), (2, .int (hv_I x2))]) hc dX11_ordered_66 (by decide) (hv_m 3 rfl) (fun _ => rfl) (fun y8 => ?_)
          refine hv_goto (tgt := 20) hc dX11_ordered_69 (by decide) ?_
          exact hv_pick [2, 3, 1, 0] rfl (hR20 x2 x5 y8 m6)
theorem g_X11_ordered_20 {X : hv_X} (hc : hv_C X cX11_ordered 6 RX11 (some FieldType.int) 67 0 0) (R10 : Int → Int → hMem → hRs) (hR10 : ∀ (x2 x3 : Int) (mem : hMem), hv_R X 6 0 0 (hv_QX X 0 0 0) (R10 x2 x3 mem) mem [] [(0, .ref (hv_ad X 65)), (2, .int (hv_I x2)), (3, .int (hv_I x3))] [] 10) : ∀ (n : Nat) (x2 x4 x5 : Int) (mem : hMem), hv_R X 6 0 0 (hv_QX X 0 0 0) (L_X11_ordered_20 R10 n x2 x4 x5 mem) mem [] [(0, .ref (hv_ad X 65)), (2, .int (hv_I x2)), (4, .int (hv_I x4)), (5, .int (hv_I x5))] [] 20 := by
  intro n
  induction n with
  | zero => intros; exact hv_none
  | succ n ih => exact gB_X11_ordered_20 hc R10 hR10 _ ih
def B_X11_ordered_10 (R10 : Int → Int → hMem → hRs) (x2 x3 : Int) (mem : hMem) : hRs := hv_eq x3 0 (hv_ret x2 mem) (L_X11_ordered_20 R10 hv_FU x2 ((-1)) 0 mem)
def L_X11_ordered_10 : Nat → Int → Int → hMem → hRs
  | 0 => fun _ _ _ => none
  | n + 1 => B_X11_ordered_10 (L_X11_ordered_10 n)
set_option maxRecDepth 100000 in
theorem gB_X11_ordered_10 {X : hv_X} (hc : hv_C X cX11_ordered 6 RX11 (some FieldType.int) 67 0 0) (R10 : Int → Int → hMem → hRs) (hR10 : ∀ (x2 x3 : Int) (mem : hMem), hv_R X 6 0 0 (hv_QX X 0 0 0) (R10 x2 x3 mem) mem [] [(0, .ref (hv_ad X 65)), (2, .int (hv_I x2)), (3, .int (hv_I x3))] [] 10) (x2 x3 : Int) (mem : hMem) : hv_R X 6 0 0 (hv_QX X 0 0 0) (B_X11_ordered_10 R10 x2 x3 mem) mem [] [(0, .ref (hv_ad X 65)), (2, .int (hv_I x2)), (3, .int (hv_I x3))] [] 10 := by
  unfold B_X11_ordered_10
  refine hv_iload_n hc dX11_ordered_10 rfl (hv_m 2 rfl) ?_
  refine hv_if_eq (tgt := 134) hc dX11_ordered_11 (by decide) ?_ ?_
  · refine hv_iload_n hc dX11_ordered_134 rfl (hv_m 1 rfl) ?_
    exact hv_iret hc dX11_ordered_135
  · refine hv_iconst hc dX11_ordered_14 ?_
    refine hv_istore (lv' := [(4, .int (hv_I ((-1)))), (0, .ref (hv_ad X 65)), (2, .int (hv_I x2)), (3, .int (hv_I x3))]) hc dX11_ordered_15 (by decide) rfl ?_
    refine hv_iconst hc dX11_ordered_17 ?_
    refine hv_istore (lv' := [(5, .int (hv_I 0)), (4, .int (hv_I ((-1)))), (0, .ref (hv_ad X 65)), (2, .int (hv_I x2)), (3, .int (hv_I x3))]) hc dX11_ordered_18 (by decide) rfl ?_
    exact hv_pick [2, 3, 1, 0] rfl (g_X11_ordered_20 hc R10 hR10 hv_FU x2 ((-1)) 0 mem)
theorem g_X11_ordered_10 {X : hv_X} (hc : hv_C X cX11_ordered 6 RX11 (some FieldType.int) 67 0 0) : ∀ (n : Nat) (x2 x3 : Int) (mem : hMem), hv_R X 6 0 0 (hv_QX X 0 0 0) (L_X11_ordered_10 n x2 x3 mem) mem [] [(0, .ref (hv_ad X 65)), (2, .int (hv_I x2)), (3, .int (hv_I x3))] [] 10 := by
  intro n
  induction n with
  | zero => intros; exact hv_none
  | succ n ih => exact gB_X11_ordered_10 hc _ ih
def f_X11_ordered (x1 : Int) (mem : hMem) : hRs := hv_b (f_X11_counts x1 mem) (fun r1 m2 => L_X11_ordered_10 hv_FU 0 1 m2)
set_option maxRecDepth 100000 in
set_option maxHeartbeats 4000000 in
theorem c_X11_ordered (x1 : Int) (mem : hMem) : hv_Met 67 0 0 0 yX11_ordered cX11_ordered 6 (some FieldType.int) (fun ad _ _ => [.ref (ad 65), .int (hv_I x1)]) mem (f_X11_ordered x1 mem) := by
  refine hv_start (by decide +kernel) (fun _ _ _ => Nat.le_of_ble_eq_true rfl) ?_
  intro X hc
  have hc : hv_C X cX11_ordered 6 RX11 (some FieldType.int) 67 0 0 := hc
  show hv_R X 6 0 0 (hv_QX X 0 0 0) (f_X11_ordered x1 mem) mem [] [(0, .ref (hv_ad X 65)), (1, .int (hv_I x1))] [] 0
  unfold f_X11_ordered
  refine hv_aload_n hc dX11_ordered_0 rfl (hv_m 0 rfl) ?_
  refine hv_iload_n hc dX11_ordered_1 rfl (hv_m 1 rfl) ?_
  refine hv_callVi hc (c_X11_counts x1 mem) yv_X11_counts tw_1392 sh_o_65 rfl rfl rfl rfl (Nat.le_of_ble_eq_true rfl) (Nat.le_of_ble_eq_true rfl) (Nat.zero_le _) (Nat.zero_le _) dX11_ordered_2 (fun r1 m2 => ?_)
  refine hv_pop hc dX11_ordered_5 rfl ?_
  refine hv_iconst hc dX11_ordered_6 ?_
  refine hv_istore_n (lv' := [(2, .int (hv_I 0)), (0, .ref (hv_ad X 65)), (1, .int (hv_I x1))]) hc dX11_ordered_7 rfl (by decide) rfl ?_
  refine hv_iconst hc dX11_ordered_8 ?_
  refine hv_istore_n (lv' := [(3, .int (hv_I 1)), (2, .int (hv_I 0)), (0, .ref (hv_ad X 65)), (1, .int (hv_I x1))]) hc dX11_ordered_9 rfl (by decide) rfl ?_
  exact hv_pick [2, 1, 0] rfl (g_X11_ordered_10 hc hv_FU 0 1 m2)
def f_X11_size (x1 : Int) (mem : hMem) : hRs := hv_b (f_X11_isVersion x1 mem) (fun r1 m2 => hv_eq r1 0 (hv_ret ((-2)) m2) (hv_b (f_X11_heapOf x1 m2) (fun r3 m4 => hv_b (f_X11_counts r3 m4) (fun r5 m6 => hv_ret r5 m6))))
set_option maxRecDepth 100000 in
set_option maxHeartbeats 4000000 in
theorem c_X11_size (x1 : Int) (mem : hMem) : hv_Met 77 0 0 0 yX11_size cX11_size 2 (some FieldType.int) (fun ad _ _ => [.ref (ad 65), .int (hv_I x1)]) mem (f_X11_size x1 mem) := by
  refine hv_start (by decide +kernel) (fun _ _ _ => Nat.le_of_ble_eq_true rfl) ?_
  intro X hc
  have hc : hv_C X cX11_size 2 RX11 (some FieldType.int) 77 0 0 := hc
  show hv_R X 2 0 0 (hv_QX X 0 0 0) (f_X11_size x1 mem) mem [] [(0, .ref (hv_ad X 65)), (1, .int (hv_I x1))] [] 0
  unfold f_X11_size
  refine hv_aload_n hc dX11_size_0 rfl (hv_m 0 rfl) ?_
  refine hv_iload_n hc dX11_size_1 rfl (hv_m 1 rfl) ?_
  refine hv_callVi hc (c_X11_isVersion x1 mem) yv_X11_isVersion tw_1308 sh_o_65 rfl rfl rfl rfl (Nat.le_of_ble_eq_true rfl) (Nat.le_of_ble_eq_true rfl) (Nat.zero_le _) (Nat.zero_le _) dX11_size_2 (fun r1 m2 => ?_)
  refine hv_if_eq (tgt := 20) hc dX11_size_5 (by decide) ?_ ?_
  · refine hv_bipush hc dX11_size_20 (by decide) ?_
    exact hv_iret hc dX11_size_22
  · refine hv_aload_n hc dX11_size_8 rfl (hv_m 0 rfl) ?_
    refine hv_aload_n hc dX11_size_9 rfl (hv_m 0 rfl) ?_
    refine hv_iload_n hc dX11_size_10 rfl (hv_m 1 rfl) ?_
    refine hv_callVi hc (c_X11_heapOf x1 m2) yv_X11_heapOf tw_1388 sh_o_65 rfl rfl rfl rfl (Nat.le_of_ble_eq_true rfl) (Nat.le_of_ble_eq_true rfl) (Nat.zero_le _) (Nat.zero_le _) dX11_size_11 (fun r3 m4 => ?_)
    refine hv_callVi hc (c_X11_counts r3 m4) yv_X11_counts tw_1392 sh_o_65 rfl rfl rfl rfl (Nat.le_of_ble_eq_true rfl) (Nat.le_of_ble_eq_true rfl) (Nat.zero_le _) (Nat.zero_le _) dX11_size_14 (fun r5 m6 => ?_)
    refine hv_goto (tgt := 22) hc dX11_size_17 (by decide) ?_
    exact hv_iret hc dX11_size_22
def f_X11_leastOf (x1 : Int) (mem : hMem) : hRs := hv_lt x1 0 (hv_ret ((-1)) mem) (hv_ald mem 69 8000 x1 (fun v1 => hv_ret v1 mem))
set_option maxRecDepth 100000 in
set_option maxHeartbeats 4000000 in
theorem c_X11_leastOf (x1 : Int) (mem : hMem) : hv_Met 0 0 0 0 yX11_leastOf cX11_leastOf 2 (some FieldType.int) (fun ad _ _ => [.ref (ad 65), .int (hv_I x1)]) mem (f_X11_leastOf x1 mem) := by
  refine hv_start (by decide +kernel) (fun _ _ _ => Nat.le_of_ble_eq_true rfl) ?_
  intro X hc
  have hc : hv_C X cX11_leastOf 2 RX11 (some FieldType.int) 0 0 0 := hc
  show hv_R X 2 0 0 (hv_QX X 0 0 0) (f_X11_leastOf x1 mem) mem [] [(0, .ref (hv_ad X 65)), (1, .int (hv_I x1))] [] 0
  unfold f_X11_leastOf
  refine hv_iload_n hc dX11_leastOf_0 rfl (hv_m 1 rfl) ?_
  refine hv_if_ge (tgt := 8) hc dX11_leastOf_1 (by decide) ?_ ?_
  · refine hv_aload_n hc dX11_leastOf_8 rfl (hv_m 0 rfl) ?_
    refine hv_getR hc fl_X11_23 sh_o_65 rfl dX11_leastOf_9 ?_
    refine hv_iload_n hc dX11_leastOf_12 rfl (hv_m 1 rfl) ?_
    refine hv_iaload hc sh_a_69 (Nat.le_of_ble_eq_true rfl) dX11_leastOf_13 (fun v1 => ?_)
    exact hv_iret hc dX11_leastOf_14
  · refine hv_iconst hc dX11_leastOf_4 ?_
    refine hv_goto (tgt := 14) hc dX11_leastOf_5 (by decide) ?_
    exact hv_iret hc dX11_leastOf_14
def f_X11_least (x1 : Int) (mem : hMem) : hRs := hv_b (f_X11_isVersion x1 mem) (fun r1 m2 => hv_eq r1 0 (hv_ret ((-2)) m2) (hv_b (f_X11_heapOf x1 m2) (fun r3 m4 => hv_b (f_X11_leastOf r3 m4) (fun r5 m6 => hv_ret r5 m6))))
set_option maxRecDepth 100000 in
set_option maxHeartbeats 4000000 in
theorem c_X11_least (x1 : Int) (mem : hMem) : hv_Met 77 0 0 0 yX11_least cX11_least 2 (some FieldType.int) (fun ad _ _ => [.ref (ad 65), .int (hv_I x1)]) mem (f_X11_least x1 mem) := by
  refine hv_start (by decide +kernel) (fun _ _ _ => Nat.le_of_ble_eq_true rfl) ?_
  intro X hc
  have hc : hv_C X cX11_least 2 RX11 (some FieldType.int) 77 0 0 := hc
  show hv_R X 2 0 0 (hv_QX X 0 0 0) (f_X11_least x1 mem) mem [] [(0, .ref (hv_ad X 65)), (1, .int (hv_I x1))] [] 0
  unfold f_X11_least
  refine hv_aload_n hc dX11_least_0 rfl (hv_m 0 rfl) ?_
  refine hv_iload_n hc dX11_least_1 rfl (hv_m 1 rfl) ?_
  refine hv_callVi hc (c_X11_isVersion x1 mem) yv_X11_isVersion tw_1308 sh_o_65 rfl rfl rfl rfl (Nat.le_of_ble_eq_true rfl) (Nat.le_of_ble_eq_true rfl) (Nat.zero_le _) (Nat.zero_le _) dX11_least_2 (fun r1 m2 => ?_)
  refine hv_if_eq (tgt := 20) hc dX11_least_5 (by decide) ?_ ?_
  · refine hv_bipush hc dX11_least_20 (by decide) ?_
    exact hv_iret hc dX11_least_22
  · refine hv_aload_n hc dX11_least_8 rfl (hv_m 0 rfl) ?_
    refine hv_aload_n hc dX11_least_9 rfl (hv_m 0 rfl) ?_
    refine hv_iload_n hc dX11_least_10 rfl (hv_m 1 rfl) ?_
    refine hv_callVi hc (c_X11_heapOf x1 m2) yv_X11_heapOf tw_1388 sh_o_65 rfl rfl rfl rfl (Nat.le_of_ble_eq_true rfl) (Nat.le_of_ble_eq_true rfl) (Nat.zero_le _) (Nat.zero_le _) dX11_least_11 (fun r3 m4 => ?_)
    refine hv_callVi hc (c_X11_leastOf r3 m4) yv_X11_leastOf tw_1408 sh_o_65 rfl rfl rfl rfl (Nat.le_of_ble_eq_true rfl) (Nat.le_of_ble_eq_true rfl) (Nat.zero_le _) (Nat.zero_le _) dX11_least_14 (fun r5 m6 => ?_)
    refine hv_goto (tgt := 22) hc dX11_least_17 (by decide) ?_
    exact hv_iret hc dX11_least_22
def f_X11_place (x1 x2 : Int) (mem : hMem) : hRs := hv_b (f_X11_isVersion x1 mem) (fun r1 m2 => hv_eq r1 0 (hv_ret ((-2)) m2) (hv_lt x2 0 (hv_ret ((-2)) m2) (hv_b (f_X11_heapOf x1 m2) (fun r3 m4 => hv_b (f_X11_ordered r3 m4) (fun r5 m6 => hv_lt x2 r5 (hv_ald m6 80 54 x2 (fun v7 => hv_ret v7 m6)) (hv_ret ((-1)) m6))))))
set_option maxRecDepth 100000 in
set_option maxHeartbeats 4000000 in
theorem c_X11_place (x1 x2 : Int) (mem : hMem) : hv_Met 77 0 0 0 yX11_place cX11_place 3 (some FieldType.int) (fun ad _ _ => [.ref (ad 65), .int (hv_I x1), .int (hv_I x2)]) mem (f_X11_place x1 x2 mem) := by
  refine hv_start (by decide +kernel) (fun _ _ _ => Nat.le_of_ble_eq_true rfl) ?_
  intro X hc
  have hc : hv_C X cX11_place 3 RX11 (some FieldType.int) 77 0 0 := hc
  show hv_R X 3 0 0 (hv_QX X 0 0 0) (f_X11_place x1 x2 mem) mem [] [(0, .ref (hv_ad X 65)), (1, .int (hv_I x1)), (2, .int (hv_I x2))] [] 0
  unfold f_X11_place
  refine hv_aload_n hc dX11_place_0 rfl (hv_m 0 rfl) ?_
  refine hv_iload_n hc dX11_place_1 rfl (hv_m 1 rfl) ?_
  refine hv_callVi hc (c_X11_isVersion x1 mem) yv_X11_isVersion tw_1308 sh_o_65 rfl rfl rfl rfl (Nat.le_of_ble_eq_true rfl) (Nat.le_of_ble_eq_true rfl) (Nat.zero_le _) (Nat.zero_le _) dX11_place_2 (fun r1 m2 => ?_)
  refine hv_if_eq (tgt := 12) hc dX11_place_5 (by decide) ?_ ?_
  · refine hv_bipush hc dX11_place_12 (by decide) ?_
    exact hv_iret hc dX11_place_14
  · refine hv_iload_n hc dX11_place_8 rfl (hv_m 2 rfl) ?_
    refine hv_if_ge (tgt := 15) hc dX11_place_9 (by decide) ?_ ?_
    · refine hv_iload_n hc dX11_place_15 rfl (hv_m 2 rfl) ?_
      refine hv_aload_n hc dX11_place_16 rfl (hv_m 0 rfl) ?_
      refine hv_aload_n hc dX11_place_17 rfl (hv_m 0 rfl) ?_
      refine hv_iload_n hc dX11_place_18 rfl (hv_m 1 rfl) ?_
      refine hv_callVi hc (c_X11_heapOf x1 m2) yv_X11_heapOf tw_1388 sh_o_65 rfl rfl rfl rfl (Nat.le_of_ble_eq_true rfl) (Nat.le_of_ble_eq_true rfl) (Nat.zero_le _) (Nat.zero_le _) dX11_place_19 (fun r3 m4 => ?_)
      refine hv_callVi hc (c_X11_ordered r3 m4) yv_X11_ordered tw_1416 sh_o_65 rfl rfl rfl rfl (Nat.le_of_ble_eq_true rfl) (Nat.le_of_ble_eq_true rfl) (Nat.zero_le _) (Nat.zero_le _) dX11_place_22 (fun r5 m6 => ?_)
      refine hv_icmp_ge (tgt := 37) hc dX11_place_25 (by decide) ?_ ?_
      · refine hv_iconst hc dX11_place_37 ?_
        exact hv_iret hc dX11_place_38
      · refine hv_aload_n hc dX11_place_28 rfl (hv_m 0 rfl) ?_
        refine hv_getR hc fl_X11_57 sh_o_65 rfl dX11_place_29 ?_
        refine hv_iload_n hc dX11_place_32 rfl (hv_m 2 rfl) ?_
        refine hv_iaload hc sh_a_80 (Nat.le_of_ble_eq_true rfl) dX11_place_33 (fun v7 => ?_)
        refine hv_goto (tgt := 38) hc dX11_place_34 (by decide) ?_
        exact hv_iret hc dX11_place_38
    · refine hv_bipush hc dX11_place_12 (by decide) ?_
      exact hv_iret hc dX11_place_14
def f_X11_times (x1 x2 : Int) (mem : hMem) : hRs := hv_b (f_X11_isVersion x1 mem) (fun r1 m2 => hv_eq r1 0 (hv_ret ((-2)) m2) (hv_b (f_X11_isJob x2 m2) (fun r3 m4 => hv_eq r3 0 (hv_ret ((-2)) m4) (hv_b (f_X11_heapOf x1 m4) (fun r5 m6 => hv_b (f_X11_counts r5 m6) (fun r7 m8 => hv_ald m8 79 30 x2 (fun v9 => hv_ret v9 m8)))))))
set_option maxRecDepth 100000 in
set_option maxHeartbeats 4000000 in
theorem c_X11_times (x1 x2 : Int) (mem : hMem) : hv_Met 77 0 0 0 yX11_times cX11_times 3 (some FieldType.int) (fun ad _ _ => [.ref (ad 65), .int (hv_I x1), .int (hv_I x2)]) mem (f_X11_times x1 x2 mem) := by
  refine hv_start (by decide +kernel) (fun _ _ _ => Nat.le_of_ble_eq_true rfl) ?_
  intro X hc
  have hc : hv_C X cX11_times 3 RX11 (some FieldType.int) 77 0 0 := hc
  show hv_R X 3 0 0 (hv_QX X 0 0 0) (f_X11_times x1 x2 mem) mem [] [(0, .ref (hv_ad X 65)), (1, .int (hv_I x1)), (2, .int (hv_I x2))] [] 0
  unfold f_X11_times
  refine hv_aload_n hc dX11_times_0 rfl (hv_m 0 rfl) ?_
  refine hv_iload_n hc dX11_times_1 rfl (hv_m 1 rfl) ?_
  refine hv_callVi hc (c_X11_isVersion x1 mem) yv_X11_isVersion tw_1308 sh_o_65 rfl rfl rfl rfl (Nat.le_of_ble_eq_true rfl) (Nat.le_of_ble_eq_true rfl) (Nat.zero_le _) (Nat.zero_le _) dX11_times_2 (fun r1 m2 => ?_)
  refine hv_if_eq (tgt := 16) hc dX11_times_5 (by decide) ?_ ?_
  · refine hv_bipush hc dX11_times_16 (by decide) ?_
    exact hv_iret hc dX11_times_18
  · refine hv_aload_n hc dX11_times_8 rfl (hv_m 0 rfl) ?_
    refine hv_iload_n hc dX11_times_9 rfl (hv_m 2 rfl) ?_
    refine hv_callVi hc (c_X11_isJob x2 m2) yv_X11_isJob tw_1380 sh_o_65 rfl rfl rfl rfl (Nat.le_of_ble_eq_true rfl) (Nat.le_of_ble_eq_true rfl) (Nat.zero_le _) (Nat.zero_le _) dX11_times_10 (fun r3 m4 => ?_)
    refine hv_if_ne (tgt := 19) hc dX11_times_13 (by decide) ?_ ?_
    · refine hv_aload_n hc dX11_times_19 rfl (hv_m 0 rfl) ?_
      refine hv_aload_n hc dX11_times_20 rfl (hv_m 0 rfl) ?_
      refine hv_iload_n hc dX11_times_21 rfl (hv_m 1 rfl) ?_
      refine hv_callVi hc (c_X11_heapOf x1 m4) yv_X11_heapOf tw_1388 sh_o_65 rfl rfl rfl rfl (Nat.le_of_ble_eq_true rfl) (Nat.le_of_ble_eq_true rfl) (Nat.zero_le _) (Nat.zero_le _) dX11_times_22 (fun r5 m6 => ?_)
      refine hv_callVi hc (c_X11_counts r5 m6) yv_X11_counts tw_1392 sh_o_65 rfl rfl rfl rfl (Nat.le_of_ble_eq_true rfl) (Nat.le_of_ble_eq_true rfl) (Nat.zero_le _) (Nat.zero_le _) dX11_times_25 (fun r7 m8 => ?_)
      refine hv_pop hc dX11_times_28 rfl ?_
      refine hv_aload_n hc dX11_times_29 rfl (hv_m 0 rfl) ?_
      refine hv_getR hc fl_X11_54 sh_o_65 rfl dX11_times_30 ?_
      refine hv_iload_n hc dX11_times_33 rfl (hv_m 2 rfl) ?_
      refine hv_iaload hc sh_a_79 (Nat.le_of_ble_eq_true rfl) dX11_times_34 (fun v9 => ?_)
      exact hv_iret hc dX11_times_35
    · refine hv_bipush hc dX11_times_16 (by decide) ?_
      exact hv_iret hc dX11_times_18
def f_X11_queueOf (x1 : Int) (mem : hMem) : hRs := hv_b (f_X11_heapOf x1 mem) (fun r1 m2 => hv_lt r1 0 (hv_ret ((-1)) m2) (hv_ald m2 70 8000 r1 (fun v3 => hv_ret v3 m2)))
set_option maxRecDepth 100000 in
set_option maxHeartbeats 4000000 in
theorem c_X11_queueOf (x1 : Int) (mem : hMem) : hv_Met 77 0 0 0 yX11_queueOf cX11_queueOf 3 (some FieldType.int) (fun ad _ _ => [.ref (ad 65), .int (hv_I x1)]) mem (f_X11_queueOf x1 mem) := by
  refine hv_start (by decide +kernel) (fun _ _ _ => Nat.le_of_ble_eq_true rfl) ?_
  intro X hc
  have hc : hv_C X cX11_queueOf 3 RX11 (some FieldType.int) 77 0 0 := hc
  show hv_R X 3 0 0 (hv_QX X 0 0 0) (f_X11_queueOf x1 mem) mem [] [(0, .ref (hv_ad X 65)), (1, .int (hv_I x1))] [] 0
  unfold f_X11_queueOf
  refine hv_aload_n hc dX11_queueOf_0 rfl (hv_m 0 rfl) ?_
  refine hv_iload_n hc dX11_queueOf_1 rfl (hv_m 1 rfl) ?_
  refine hv_callVi hc (c_X11_heapOf x1 mem) yv_X11_heapOf tw_1388 sh_o_65 rfl rfl rfl rfl (Nat.le_of_ble_eq_true rfl) (Nat.le_of_ble_eq_true rfl) (Nat.zero_le _) (Nat.zero_le _) dX11_queueOf_2 (fun r1 m2 => ?_)
  refine hv_istore_n (lv' := [(2, .int (hv_I r1)), (0, .ref (hv_ad X 65)), (1, .int (hv_I x1))]) hc dX11_queueOf_5 rfl (by decide) rfl ?_
  refine hv_iload_n hc dX11_queueOf_6 rfl (hv_m 0 rfl) ?_
  refine hv_if_ge (tgt := 14) hc dX11_queueOf_7 (by decide) ?_ ?_
  · refine hv_aload_n hc dX11_queueOf_14 rfl (hv_m 1 rfl) ?_
    refine hv_getR hc fl_X11_26 sh_o_65 rfl dX11_queueOf_15 ?_
    refine hv_iload_n hc dX11_queueOf_18 rfl (hv_m 0 rfl) ?_
    refine hv_iaload hc sh_a_70 (Nat.le_of_ble_eq_true rfl) dX11_queueOf_19 (fun v3 => ?_)
    exact hv_iret hc dX11_queueOf_20
  · refine hv_iconst hc dX11_queueOf_10 ?_
    refine hv_goto (tgt := 20) hc dX11_queueOf_11 (by decide) ?_
    exact hv_iret hc dX11_queueOf_20
def f_X11_trees (x1 : Int) (mem : hMem) : hRs := hv_b (f_X11_isVersion x1 mem) (fun r1 m2 => hv_eq r1 0 (hv_ret ((-2)) m2) (hv_b (f_X11_queueOf x1 m2) (fun r3 m4 => hv_b (f_X11_longOf r3 m4) (fun r5 m6 => hv_ret r5 m6))))
set_option maxRecDepth 100000 in
set_option maxHeartbeats 4000000 in
theorem c_X11_trees (x1 : Int) (mem : hMem) : hv_Met 78 0 0 0 yX11_trees cX11_trees 2 (some FieldType.int) (fun ad _ _ => [.ref (ad 65), .int (hv_I x1)]) mem (f_X11_trees x1 mem) := by
  refine hv_start (by decide +kernel) (fun _ _ _ => Nat.le_of_ble_eq_true rfl) ?_
  intro X hc
  have hc : hv_C X cX11_trees 2 RX11 (some FieldType.int) 78 0 0 := hc
  show hv_R X 2 0 0 (hv_QX X 0 0 0) (f_X11_trees x1 mem) mem [] [(0, .ref (hv_ad X 65)), (1, .int (hv_I x1))] [] 0
  unfold f_X11_trees
  refine hv_aload_n hc dX11_trees_0 rfl (hv_m 0 rfl) ?_
  refine hv_iload_n hc dX11_trees_1 rfl (hv_m 1 rfl) ?_
  refine hv_callVi hc (c_X11_isVersion x1 mem) yv_X11_isVersion tw_1308 sh_o_65 rfl rfl rfl rfl (Nat.le_of_ble_eq_true rfl) (Nat.le_of_ble_eq_true rfl) (Nat.zero_le _) (Nat.zero_le _) dX11_trees_2 (fun r1 m2 => ?_)
  refine hv_if_eq (tgt := 20) hc dX11_trees_5 (by decide) ?_ ?_
  · refine hv_bipush hc dX11_trees_20 (by decide) ?_
    exact hv_iret hc dX11_trees_22
  · refine hv_aload_n hc dX11_trees_8 rfl (hv_m 0 rfl) ?_
    refine hv_aload_n hc dX11_trees_9 rfl (hv_m 0 rfl) ?_
    refine hv_iload_n hc dX11_trees_10 rfl (hv_m 1 rfl) ?_
    refine hv_callVi hc (c_X11_queueOf x1 m2) yv_X11_queueOf tw_1428 sh_o_65 rfl rfl rfl rfl (Nat.le_of_ble_eq_true rfl) (Nat.le_of_ble_eq_true rfl) (Nat.zero_le _) (Nat.zero_le _) dX11_trees_11 (fun r3 m4 => ?_)
    refine hv_callVi hc (c_X11_longOf r3 m4) yv_X11_longOf tw_1432 sh_o_65 rfl rfl rfl rfl (Nat.le_of_ble_eq_true rfl) (Nat.le_of_ble_eq_true rfl) (Nat.zero_le _) (Nat.zero_le _) dX11_trees_14 (fun r5 m6 => ?_)
    refine hv_goto (tgt := 22) hc dX11_trees_17 (by decide) ?_
    exact hv_iret hc dX11_trees_22
def f_X11_treeAt (x1 x2 : Int) (mem : hMem) : hRs := hv_b (f_X11_isVersion x1 mem) (fun r1 m2 => hv_eq r1 0 (hv_ret ((-2)) m2) (hv_lt x2 0 (hv_ret ((-2)) m2) (hv_b (f_X11_queueOf x1 m2) (fun r3 m4 => hv_b (f_X11_longOf r3 m4) (fun r5 m6 => hv_lt x2 r5 (hv_b (f_X11_thingOf r3 x2 m6) (fun r7 m8 => hv_ret r7 m8)) (hv_ret ((-1)) m6))))))
set_option maxRecDepth 100000 in
set_option maxHeartbeats 4000000 in
theorem c_X11_treeAt (x1 x2 : Int) (mem : hMem) : hv_Met 78 0 0 0 yX11_treeAt cX11_treeAt 4 (some FieldType.int) (fun ad _ _ => [.ref (ad 65), .int (hv_I x1), .int (hv_I x2)]) mem (f_X11_treeAt x1 x2 mem) := by
  refine hv_start (by decide +kernel) (fun _ _ _ => Nat.le_of_ble_eq_true rfl) ?_
  intro X hc
  have hc : hv_C X cX11_treeAt 4 RX11 (some FieldType.int) 78 0 0 := hc
  show hv_R X 4 0 0 (hv_QX X 0 0 0) (f_X11_treeAt x1 x2 mem) mem [] [(0, .ref (hv_ad X 65)), (1, .int (hv_I x1)), (2, .int (hv_I x2))] [] 0
  unfold f_X11_treeAt
  refine hv_aload_n hc dX11_treeAt_0 rfl (hv_m 0 rfl) ?_
  refine hv_iload_n hc dX11_treeAt_1 rfl (hv_m 1 rfl) ?_
  refine hv_callVi hc (c_X11_isVersion x1 mem) yv_X11_isVersion tw_1308 sh_o_65 rfl rfl rfl rfl (Nat.le_of_ble_eq_true rfl) (Nat.le_of_ble_eq_true rfl) (Nat.zero_le _) (Nat.zero_le _) dX11_treeAt_2 (fun r1 m2 => ?_)
  refine hv_if_eq (tgt := 12) hc dX11_treeAt_5 (by decide) ?_ ?_
  · refine hv_bipush hc dX11_treeAt_12 (by decide) ?_
    exact hv_iret hc dX11_treeAt_14
  · refine hv_iload_n hc dX11_treeAt_8 rfl (hv_m 2 rfl) ?_
    refine hv_if_ge (tgt := 15) hc dX11_treeAt_9 (by decide) ?_ ?_
    · refine hv_aload_n hc dX11_treeAt_15 rfl (hv_m 0 rfl) ?_
      refine hv_iload_n hc dX11_treeAt_16 rfl (hv_m 1 rfl) ?_
      refine hv_callVi hc (c_X11_queueOf x1 m2) yv_X11_queueOf tw_1428 sh_o_65 rfl rfl rfl rfl (Nat.le_of_ble_eq_true rfl) (Nat.le_of_ble_eq_true rfl) (Nat.zero_le _) (Nat.zero_le _) dX11_treeAt_17 (fun r3 m4 => ?_)
      refine hv_istore_n (lv' := [(3, .int (hv_I r3)), (0, .ref (hv_ad X 65)), (1, .int (hv_I x1)), (2, .int (hv_I x2))]) hc dX11_treeAt_20 rfl (by decide) rfl ?_
      refine hv_iload_n hc dX11_treeAt_21 rfl (hv_m 3 rfl) ?_
      refine hv_aload_n hc dX11_treeAt_22 rfl (hv_m 1 rfl) ?_
      refine hv_iload_n hc dX11_treeAt_23 rfl (hv_m 0 rfl) ?_
      refine hv_callVi hc (c_X11_longOf r3 m4) yv_X11_longOf tw_1432 sh_o_65 rfl rfl rfl rfl (Nat.le_of_ble_eq_true rfl) (Nat.le_of_ble_eq_true rfl) (Nat.zero_le _) (Nat.zero_le _) dX11_treeAt_24 (fun r5 m6 => ?_)
      refine hv_icmp_ge (tgt := 39) hc dX11_treeAt_27 (by decide) ?_ ?_
      · refine hv_iconst hc dX11_treeAt_39 ?_
        exact hv_iret hc dX11_treeAt_40
      · refine hv_aload_n hc dX11_treeAt_30 rfl (hv_m 1 rfl) ?_
        refine hv_iload_n hc dX11_treeAt_31 rfl (hv_m 0 rfl) ?_
        refine hv_iload_n hc dX11_treeAt_32 rfl (hv_m 3 rfl) ?_
        refine hv_callVi hc (c_X11_thingOf r3 x2 m6) yv_X11_thingOf tw_1444 sh_o_65 rfl rfl rfl rfl (Nat.le_of_ble_eq_true rfl) (Nat.le_of_ble_eq_true rfl) (Nat.zero_le _) (Nat.zero_le _) dX11_treeAt_33 (fun r7 m8 => ?_)
        refine hv_goto (tgt := 40) hc dX11_treeAt_36 (by decide) ?_
        exact hv_iret hc dX11_treeAt_40
    · refine hv_bipush hc dX11_treeAt_12 (by decide) ?_
      exact hv_iret hc dX11_treeAt_14
def f_X11_rank (x1 x2 : Int) (mem : hMem) : hRs := hv_b (f_X11_treeAt x1 x2 mem) (fun r1 m2 => hv_lt r1 0 (hv_ret r1 m2) (hv_ald m2 71 8000 r1 (fun v3 => hv_ret v3 m2)))
set_option maxRecDepth 100000 in
set_option maxHeartbeats 4000000 in
theorem c_X11_rank (x1 x2 : Int) (mem : hMem) : hv_Met 79 0 0 0 yX11_rank cX11_rank 4 (some FieldType.int) (fun ad _ _ => [.ref (ad 65), .int (hv_I x1), .int (hv_I x2)]) mem (f_X11_rank x1 x2 mem) := by
  refine hv_start (by decide +kernel) (fun _ _ _ => Nat.le_of_ble_eq_true rfl) ?_
  intro X hc
  have hc : hv_C X cX11_rank 4 RX11 (some FieldType.int) 79 0 0 := hc
  show hv_R X 4 0 0 (hv_QX X 0 0 0) (f_X11_rank x1 x2 mem) mem [] [(0, .ref (hv_ad X 65)), (1, .int (hv_I x1)), (2, .int (hv_I x2))] [] 0
  unfold f_X11_rank
  refine hv_aload_n hc dX11_rank_0 rfl (hv_m 0 rfl) ?_
  refine hv_iload_n hc dX11_rank_1 rfl (hv_m 1 rfl) ?_
  refine hv_iload_n hc dX11_rank_2 rfl (hv_m 2 rfl) ?_
  refine hv_callVi hc (c_X11_treeAt x1 x2 mem) yv_X11_treeAt tw_1440 sh_o_65 rfl rfl rfl rfl (Nat.le_of_ble_eq_true rfl) (Nat.le_of_ble_eq_true rfl) (Nat.zero_le _) (Nat.zero_le _) dX11_rank_3 (fun r1 m2 => ?_)
  refine hv_istore_n (lv' := [(3, .int (hv_I r1)), (0, .ref (hv_ad X 65)), (1, .int (hv_I x1)), (2, .int (hv_I x2))]) hc dX11_rank_6 rfl (by decide) rfl ?_
  refine hv_iload_n hc dX11_rank_7 rfl (hv_m 0 rfl) ?_
  refine hv_if_ge (tgt := 15) hc dX11_rank_8 (by decide) ?_ ?_
  · refine hv_aload_n hc dX11_rank_15 rfl (hv_m 1 rfl) ?_
    refine hv_getR hc fl_X11_29 sh_o_65 rfl dX11_rank_16 ?_
    refine hv_iload_n hc dX11_rank_19 rfl (hv_m 0 rfl) ?_
    refine hv_iaload hc sh_a_71 (Nat.le_of_ble_eq_true rfl) dX11_rank_20 (fun v3 => ?_)
    exact hv_iret hc dX11_rank_21
  · refine hv_iload_n hc dX11_rank_11 rfl (hv_m 0 rfl) ?_
    refine hv_goto (tgt := 21) hc dX11_rank_12 (by decide) ?_
    exact hv_iret hc dX11_rank_21
def f_X11_holds (x1 x2 : Int) (mem : hMem) : hRs := hv_b (f_X11_treeAt x1 x2 mem) (fun r1 m2 => hv_lt r1 0 (hv_ret r1 m2) (hv_b (f_X11_countsTree r1 m2) (fun r3 m4 => hv_ret r3 m4)))
set_option maxRecDepth 100000 in
set_option maxHeartbeats 4000000 in
theorem c_X11_holds (x1 x2 : Int) (mem : hMem) : hv_Met 79 0 0 0 yX11_holds cX11_holds 4 (some FieldType.int) (fun ad _ _ => [.ref (ad 65), .int (hv_I x1), .int (hv_I x2)]) mem (f_X11_holds x1 x2 mem) := by
  refine hv_start (by decide +kernel) (fun _ _ _ => Nat.le_of_ble_eq_true rfl) ?_
  intro X hc
  have hc : hv_C X cX11_holds 4 RX11 (some FieldType.int) 79 0 0 := hc
  show hv_R X 4 0 0 (hv_QX X 0 0 0) (f_X11_holds x1 x2 mem) mem [] [(0, .ref (hv_ad X 65)), (1, .int (hv_I x1)), (2, .int (hv_I x2))] [] 0
  unfold f_X11_holds
  refine hv_aload_n hc dX11_holds_0 rfl (hv_m 0 rfl) ?_
  refine hv_iload_n hc dX11_holds_1 rfl (hv_m 1 rfl) ?_
  refine hv_iload_n hc dX11_holds_2 rfl (hv_m 2 rfl) ?_
  refine hv_callVi hc (c_X11_treeAt x1 x2 mem) yv_X11_treeAt tw_1440 sh_o_65 rfl rfl rfl rfl (Nat.le_of_ble_eq_true rfl) (Nat.le_of_ble_eq_true rfl) (Nat.zero_le _) (Nat.zero_le _) dX11_holds_3 (fun r1 m2 => ?_)
  refine hv_istore_n (lv' := [(3, .int (hv_I r1)), (0, .ref (hv_ad X 65)), (1, .int (hv_I x1)), (2, .int (hv_I x2))]) hc dX11_holds_6 rfl (by decide) rfl ?_
  refine hv_iload_n hc dX11_holds_7 rfl (hv_m 0 rfl) ?_
  refine hv_if_ge (tgt := 15) hc dX11_holds_8 (by decide) ?_ ?_
  · refine hv_aload_n hc dX11_holds_15 rfl (hv_m 1 rfl) ?_
    refine hv_iload_n hc dX11_holds_16 rfl (hv_m 0 rfl) ?_
    refine hv_callVi hc (c_X11_countsTree r1 m2) yv_X11_countsTree tw_1400 sh_o_65 rfl rfl rfl rfl (Nat.le_of_ble_eq_true rfl) (Nat.le_of_ble_eq_true rfl) (Nat.zero_le _) (Nat.zero_le _) dX11_holds_17 (fun r3 m4 => ?_)
    exact hv_iret hc dX11_holds_20
  · refine hv_iload_n hc dX11_holds_11 rfl (hv_m 0 rfl) ?_
    refine hv_goto (tgt := 20) hc dX11_holds_12 (by decide) ?_
    exact hv_iret hc dX11_holds_20
def f_X11_singles (x1 x2 : Int) (mem : hMem) : hRs := hv_b (f_X11_treeAt x1 x2 mem) (fun r1 m2 => hv_lt r1 0 (hv_ret r1 m2) (hv_ald m2 73 8000 r1 (fun v3 => hv_b (f_X11_longOf v3 m2) (fun r4 m5 => hv_ret r4 m5))))
set_option maxRecDepth 100000 in
set_option maxHeartbeats 4000000 in
theorem c_X11_singles (x1 x2 : Int) (mem : hMem) : hv_Met 79 0 0 0 yX11_singles cX11_singles 4 (some FieldType.int) (fun ad _ _ => [.ref (ad 65), .int (hv_I x1), .int (hv_I x2)]) mem (f_X11_singles x1 x2 mem) := by
  refine hv_start (by decide +kernel) (fun _ _ _ => Nat.le_of_ble_eq_true rfl) ?_
  intro X hc
  have hc : hv_C X cX11_singles 4 RX11 (some FieldType.int) 79 0 0 := hc
  show hv_R X 4 0 0 (hv_QX X 0 0 0) (f_X11_singles x1 x2 mem) mem [] [(0, .ref (hv_ad X 65)), (1, .int (hv_I x1)), (2, .int (hv_I x2))] [] 0
  unfold f_X11_singles
  refine hv_aload_n hc dX11_singles_0 rfl (hv_m 0 rfl) ?_
  refine hv_iload_n hc dX11_singles_1 rfl (hv_m 1 rfl) ?_
  refine hv_iload_n hc dX11_singles_2 rfl (hv_m 2 rfl) ?_
  refine hv_callVi hc (c_X11_treeAt x1 x2 mem) yv_X11_treeAt tw_1440 sh_o_65 rfl rfl rfl rfl (Nat.le_of_ble_eq_true rfl) (Nat.le_of_ble_eq_true rfl) (Nat.zero_le _) (Nat.zero_le _) dX11_singles_3 (fun r1 m2 => ?_)
  refine hv_istore_n (lv' := [(3, .int (hv_I r1)), (0, .ref (hv_ad X 65)), (1, .int (hv_I x1)), (2, .int (hv_I x2))]) hc dX11_singles_6 rfl (by decide) rfl ?_
  refine hv_iload_n hc dX11_singles_7 rfl (hv_m 0 rfl) ?_
  refine hv_if_ge (tgt := 15) hc dX11_singles_8 (by decide) ?_ ?_
  · refine hv_aload_n hc dX11_singles_15 rfl (hv_m 1 rfl) ?_
    refine hv_aload_n hc dX11_singles_16 rfl (hv_m 1 rfl) ?_
    refine hv_getR hc fl_X11_35 sh_o_65 rfl dX11_singles_17 ?_
    refine hv_iload_n hc dX11_singles_20 rfl (hv_m 0 rfl) ?_
    refine hv_iaload hc sh_a_73 (Nat.le_of_ble_eq_true rfl) dX11_singles_21 (fun v3 => ?_)
    refine hv_callVi hc (c_X11_longOf v3 m2) yv_X11_longOf tw_1432 sh_o_65 rfl rfl rfl rfl (Nat.le_of_ble_eq_true rfl) (Nat.le_of_ble_eq_true rfl) (Nat.zero_le _) (Nat.zero_le _) dX11_singles_22 (fun r4 m5 => ?_)
    exact hv_iret hc dX11_singles_25
  · refine hv_iload_n hc dX11_singles_11 rfl (hv_m 0 rfl) ?_
    refine hv_goto (tgt := 25) hc dX11_singles_12 (by decide) ?_
    exact hv_iret hc dX11_singles_25
def f_X11_head (x1 x2 : Int) (mem : hMem) : hRs := hv_b (f_X11_treeAt x1 x2 mem) (fun r1 m2 => hv_lt r1 0 (hv_ret r1 m2) (hv_ald m2 72 8000 r1 (fun v3 => hv_ald m2 69 8000 v3 (fun v4 => hv_ret v4 m2))))
set_option maxRecDepth 100000 in
set_option maxHeartbeats 4000000 in
theorem c_X11_head (x1 x2 : Int) (mem : hMem) : hv_Met 79 0 0 0 yX11_head cX11_head 4 (some FieldType.int) (fun ad _ _ => [.ref (ad 65), .int (hv_I x1), .int (hv_I x2)]) mem (f_X11_head x1 x2 mem) := by
  refine hv_start (by decide +kernel) (fun _ _ _ => Nat.le_of_ble_eq_true rfl) ?_
  intro X hc
  have hc : hv_C X cX11_head 4 RX11 (some FieldType.int) 79 0 0 := hc
  show hv_R X 4 0 0 (hv_QX X 0 0 0) (f_X11_head x1 x2 mem) mem [] [(0, .ref (hv_ad X 65)), (1, .int (hv_I x1)), (2, .int (hv_I x2))] [] 0
  unfold f_X11_head
  refine hv_aload_n hc dX11_head_0 rfl (hv_m 0 rfl) ?_
  refine hv_iload_n hc dX11_head_1 rfl (hv_m 1 rfl) ?_
  refine hv_iload_n hc dX11_head_2 rfl (hv_m 2 rfl) ?_
  refine hv_callVi hc (c_X11_treeAt x1 x2 mem) yv_X11_treeAt tw_1440 sh_o_65 rfl rfl rfl rfl (Nat.le_of_ble_eq_true rfl) (Nat.le_of_ble_eq_true rfl) (Nat.zero_le _) (Nat.zero_le _) dX11_head_3 (fun r1 m2 => ?_)
  refine hv_istore_n (lv' := [(3, .int (hv_I r1)), (0, .ref (hv_ad X 65)), (1, .int (hv_I x1)), (2, .int (hv_I x2))]) hc dX11_head_6 rfl (by decide) rfl ?_
  refine hv_iload_n hc dX11_head_7 rfl (hv_m 0 rfl) ?_
  refine hv_if_ge (tgt := 15) hc dX11_head_8 (by decide) ?_ ?_
  · refine hv_aload_n hc dX11_head_15 rfl (hv_m 1 rfl) ?_
    refine hv_getR hc fl_X11_23 sh_o_65 rfl dX11_head_16 ?_
    refine hv_aload_n hc dX11_head_19 rfl (hv_m 1 rfl) ?_
    refine hv_getR hc fl_X11_32 sh_o_65 rfl dX11_head_20 ?_
    refine hv_iload_n hc dX11_head_23 rfl (hv_m 0 rfl) ?_
    refine hv_iaload hc sh_a_72 (Nat.le_of_ble_eq_true rfl) dX11_head_24 (fun v3 => ?_)
    refine hv_iaload hc sh_a_69 (Nat.le_of_ble_eq_true rfl) dX11_head_25 (fun v4 => ?_)
    exact hv_iret hc dX11_head_26
  · refine hv_iload_n hc dX11_head_11 rfl (hv_m 0 rfl) ?_
    refine hv_goto (tgt := 26) hc dX11_head_12 (by decide) ?_
    exact hv_iret hc dX11_head_26
def B_X11_deepOf_15 (rf0 : Int → hMem → hRs) (rf1 : Int → hMem → hRs) (R15 : Int → Int → hMem → hRs) (x2 x3 : Int) (mem : hMem) : hRs := hv_lt x3 0 (hv_ret (x2 + 1) mem) (hv_ald mem 75 40000 x3 (fun v1 => hv_b (rf1 v1 mem) (fun r2 m3 => hv_b (f_J9_max_7cf53 x2 r2 m3) (fun r4 m5 => hv_ald m5 76 40000 x3 (fun v6 => R15 r4 v6 m5)))))
def L_X11_deepOf_15 (rf0 : Int → hMem → hRs) (rf1 : Int → hMem → hRs) : Nat → Int → Int → hMem → hRs
  | 0 => fun _ _ _ => none
  | n + 1 => B_X11_deepOf_15 rf0 rf1 (L_X11_deepOf_15 rf0 rf1 n)
set_option maxRecDepth 100000 in
theorem gB_X11_deepOf_15 {X : hv_X} {d : Nat} (hc : hv_C X cX11_deepOf 4 RX11 (some FieldType.int) (d + 1 + 2) 0 0) (rf0 : Int → hMem → hRs) (hrf0 : ∀ (x1 : Int) (mem : hMem), hv_Met (d + 2) 0 0 0 yX11_deepOf cX11_deepOf 4 (some FieldType.int) (fun ad _ _ => [.ref (ad 65), .int (hv_I x1)]) mem (rf0 x1 mem)) (rf1 : Int → hMem → hRs) (hrf1 : ∀ (x1 : Int) (mem : hMem), hv_Met (d + 2) 0 0 0 yX11_deepIn cX11_deepIn 4 (some FieldType.int) (fun ad _ _ => [.ref (ad 65), .int (hv_I x1)]) mem (rf1 x1 mem)) (R15 : Int → Int → hMem → hRs) (hR15 : ∀ (x2 x3 : Int) (mem : hMem), hv_R X 4 0 0 (hv_QX X 0 0 0) (R15 x2 x3 mem) mem [] [(0, .ref (hv_ad X 65)), (2, .int (hv_I x2)), (3, .int (hv_I x3))] [] 15) (x2 x3 : Int) (mem : hMem) : hv_R X 4 0 0 (hv_QX X 0 0 0) (B_X11_deepOf_15 rf0 rf1 R15 x2 x3 mem) mem [] [(0, .ref (hv_ad X 65)), (2, .int (hv_I x2)), (3, .int (hv_I x3))] [] 15 := by
  unfold B_X11_deepOf_15
  refine hv_iload_n hc dX11_deepOf_15 rfl (hv_m 2 rfl) ?_
  refine hv_if_lt (tgt := 44) hc dX11_deepOf_16 (by decide) ?_ ?_
  · refine hv_iload_n hc dX11_deepOf_44 rfl (hv_m 1 rfl) ?_
    refine hv_iconst hc dX11_deepOf_45 ?_
    refine hv_iadd hc dX11_deepOf_46 ?_
    exact hv_iret hc dX11_deepOf_47
  · refine hv_iload_n hc dX11_deepOf_19 rfl (hv_m 1 rfl) ?_
    refine hv_aload_n hc dX11_deepOf_20 rfl (hv_m 0 rfl) ?_
    refine hv_aload_n hc dX11_deepOf_21 rfl (hv_m 0 rfl) ?_
    refine hv_getR hc fl_X11_42 sh_o_65 rfl dX11_deepOf_22 ?_
    refine hv_iload_n hc dX11_deepOf_25 rfl (hv_m 2 rfl) ?_
    refine hv_iaload hc sh_a_75 (Nat.le_of_ble_eq_true rfl) dX11_deepOf_26 (fun v1 => ?_)
    refine hv_callVi hc (hrf1 v1 mem) yv_X11_deepIn tw_1468 sh_o_65 rfl rfl rfl rfl (Nat.le_of_ble_eq_true rfl) (by omega) (Nat.zero_le _) (Nat.zero_le _) dX11_deepOf_27 (fun r2 m3 => ?_)
    refine hv_callSi hc (c_J9_max_7cf53 x2 r2 m3) ys_J9_max_7cf53 tw_1472 rfl rfl rfl (Nat.le_of_ble_eq_true rfl) (by omega) (Nat.zero_le _) (Nat.zero_le _) dX11_deepOf_30 (fun r4 m5 => ?_)
    refine hv_istore_n (lv' := [(2, .int (hv_I r4)), (0, .ref (hv_ad X 65)), (3, .int (hv_I x3))]) hc dX11_deepOf_33 rfl (by decide) rfl ?_
    refine hv_aload_n hc dX11_deepOf_34 rfl (hv_m 1 rfl) ?_
    refine hv_getR hc fl_X11_45 sh_o_65 rfl dX11_deepOf_35 ?_
    refine hv_iload_n hc dX11_deepOf_38 rfl (hv_m 2 rfl) ?_
    refine hv_iaload hc sh_a_76 (Nat.le_of_ble_eq_true rfl) dX11_deepOf_39 (fun v6 => ?_)
    refine hv_istore_n (lv' := [(3, .int (hv_I v6)), (2, .int (hv_I r4)), (0, .ref (hv_ad X 65))]) hc dX11_deepOf_40 rfl (by decide) rfl ?_
    refine hv_goto (tgt := 15) hc dX11_deepOf_41 (by decide) ?_
    exact hv_pick [2, 1, 0] rfl (hR15 r4 v6 m5)
theorem g_X11_deepOf_15 {X : hv_X} {d : Nat} (hc : hv_C X cX11_deepOf 4 RX11 (some FieldType.int) (d + 1 + 2) 0 0) (rf0 : Int → hMem → hRs) (hrf0 : ∀ (x1 : Int) (mem : hMem), hv_Met (d + 2) 0 0 0 yX11_deepOf cX11_deepOf 4 (some FieldType.int) (fun ad _ _ => [.ref (ad 65), .int (hv_I x1)]) mem (rf0 x1 mem)) (rf1 : Int → hMem → hRs) (hrf1 : ∀ (x1 : Int) (mem : hMem), hv_Met (d + 2) 0 0 0 yX11_deepIn cX11_deepIn 4 (some FieldType.int) (fun ad _ _ => [.ref (ad 65), .int (hv_I x1)]) mem (rf1 x1 mem)) : ∀ (n : Nat) (x2 x3 : Int) (mem : hMem), hv_R X 4 0 0 (hv_QX X 0 0 0) (L_X11_deepOf_15 rf0 rf1 n x2 x3 mem) mem [] [(0, .ref (hv_ad X 65)), (2, .int (hv_I x2)), (3, .int (hv_I x3))] [] 15 := by
  intro n
  induction n with
  | zero => intros; exact hv_none
  | succ n ih => exact gB_X11_deepOf_15 hc rf0 hrf0 rf1 hrf1 _ ih
def fs_X11_deepOf (rf0 : Int → hMem → hRs) (rf1 : Int → hMem → hRs) (x1 : Int) (mem : hMem) : hRs := hv_lt x1 0 (hv_ret 0 mem) (hv_ald mem 70 8000 x1 (fun v1 => L_X11_deepOf_15 rf0 rf1 hv_FU 0 v1 mem))
set_option maxRecDepth 100000 in
set_option maxHeartbeats 4000000 in
theorem cs_X11_deepOf (d : Nat) (rf0 : Int → hMem → hRs) (hrf0 : ∀ (x1 : Int) (mem : hMem), hv_Met (d + 2) 0 0 0 yX11_deepOf cX11_deepOf 4 (some FieldType.int) (fun ad _ _ => [.ref (ad 65), .int (hv_I x1)]) mem (rf0 x1 mem)) (rf1 : Int → hMem → hRs) (hrf1 : ∀ (x1 : Int) (mem : hMem), hv_Met (d + 2) 0 0 0 yX11_deepIn cX11_deepIn 4 (some FieldType.int) (fun ad _ _ => [.ref (ad 65), .int (hv_I x1)]) mem (rf1 x1 mem)) (x1 : Int) (mem : hMem) : hv_Met (d + 1 + 2) 0 0 0 yX11_deepOf cX11_deepOf 4 (some FieldType.int) (fun ad _ _ => [.ref (ad 65), .int (hv_I x1)]) mem (fs_X11_deepOf rf0 rf1 x1 mem) := by
  refine hv_start (by decide +kernel) (fun _ _ _ => Nat.le_of_ble_eq_true rfl) ?_
  intro X hc
  have hc : hv_C X cX11_deepOf 4 RX11 (some FieldType.int) (d + 1 + 2) 0 0 := hc
  show hv_R X 4 0 0 (hv_QX X 0 0 0) (fs_X11_deepOf rf0 rf1 x1 mem) mem [] [(0, .ref (hv_ad X 65)), (1, .int (hv_I x1))] [] 0
  unfold fs_X11_deepOf
  refine hv_iload_n hc dX11_deepOf_0 rfl (hv_m 1 rfl) ?_
  refine hv_if_ge (tgt := 6) hc dX11_deepOf_1 (by decide) ?_ ?_
  · refine hv_iconst hc dX11_deepOf_6 ?_
    refine hv_istore_n (lv' := [(2, .int (hv_I 0)), (0, .ref (hv_ad X 65)), (1, .int (hv_I x1))]) hc dX11_deepOf_7 rfl (by decide) rfl ?_
    refine hv_aload_n hc dX11_deepOf_8 rfl (hv_m 1 rfl) ?_
    refine hv_getR hc fl_X11_26 sh_o_65 rfl dX11_deepOf_9 ?_
    refine hv_iload_n hc dX11_deepOf_12 rfl (hv_m 2 rfl) ?_
    refine hv_iaload hc sh_a_70 (Nat.le_of_ble_eq_true rfl) dX11_deepOf_13 (fun v1 => ?_)
    refine hv_istore_n (lv' := [(3, .int (hv_I v1)), (2, .int (hv_I 0)), (0, .ref (hv_ad X 65)), (1, .int (hv_I x1))]) hc dX11_deepOf_14 rfl (by decide) rfl ?_
    exact hv_pick [2, 1, 0] rfl (g_X11_deepOf_15 hc rf0 hrf0 rf1 hrf1 hv_FU 0 v1 mem)
  · refine hv_iconst hc dX11_deepOf_4 ?_
    exact hv_iret hc dX11_deepOf_5
def B_X11_deepIn_54 (rf0 : Int → hMem → hRs) (rf1 : Int → hMem → hRs) (R54 : Int → Int → hMem → hRs) (x2 x3 : Int) (mem : hMem) : hRs := hv_lt x3 0 (hv_ret x2 mem) (hv_ald mem 75 40000 x3 (fun v1 => hv_b (rf1 v1 mem) (fun r2 m3 => hv_b (f_J9_max_7cf53 x2 r2 m3) (fun r4 m5 => hv_ald m5 76 40000 x3 (fun v6 => R54 r4 v6 m5)))))
def L_X11_deepIn_54 (rf0 : Int → hMem → hRs) (rf1 : Int → hMem → hRs) : Nat → Int → Int → hMem → hRs
  | 0 => fun _ _ _ => none
  | n + 1 => B_X11_deepIn_54 rf0 rf1 (L_X11_deepIn_54 rf0 rf1 n)
set_option maxRecDepth 100000 in
theorem gB_X11_deepIn_54 {X : hv_X} {d : Nat} (hc : hv_C X cX11_deepIn 4 RX11 (some FieldType.int) (d + 1 + 2) 0 0) (rf0 : Int → hMem → hRs) (hrf0 : ∀ (x1 : Int) (mem : hMem), hv_Met (d + 2) 0 0 0 yX11_deepOf cX11_deepOf 4 (some FieldType.int) (fun ad _ _ => [.ref (ad 65), .int (hv_I x1)]) mem (rf0 x1 mem)) (rf1 : Int → hMem → hRs) (hrf1 : ∀ (x1 : Int) (mem : hMem), hv_Met (d + 2) 0 0 0 yX11_deepIn cX11_deepIn 4 (some FieldType.int) (fun ad _ _ => [.ref (ad 65), .int (hv_I x1)]) mem (rf1 x1 mem)) (R54 : Int → Int → hMem → hRs) (hR54 : ∀ (x2 x3 : Int) (mem : hMem), hv_R X 4 0 0 (hv_QX X 0 0 0) (R54 x2 x3 mem) mem [] [(0, .ref (hv_ad X 65)), (2, .int (hv_I x2)), (3, .int (hv_I x3))] [] 54) (x2 x3 : Int) (mem : hMem) : hv_R X 4 0 0 (hv_QX X 0 0 0) (B_X11_deepIn_54 rf0 rf1 R54 x2 x3 mem) mem [] [(0, .ref (hv_ad X 65)), (2, .int (hv_I x2)), (3, .int (hv_I x3))] [] 54 := by
  unfold B_X11_deepIn_54
  refine hv_iload_n hc dX11_deepIn_54 rfl (hv_m 2 rfl) ?_
  refine hv_if_lt (tgt := 83) hc dX11_deepIn_55 (by decide) ?_ ?_
  · refine hv_iload_n hc dX11_deepIn_83 rfl (hv_m 1 rfl) ?_
    exact hv_iret hc dX11_deepIn_84
  · refine hv_iload_n hc dX11_deepIn_58 rfl (hv_m 1 rfl) ?_
    refine hv_aload_n hc dX11_deepIn_59 rfl (hv_m 0 rfl) ?_
    refine hv_aload_n hc dX11_deepIn_60 rfl (hv_m 0 rfl) ?_
    refine hv_getR hc fl_X11_42 sh_o_65 rfl dX11_deepIn_61 ?_
    refine hv_iload_n hc dX11_deepIn_64 rfl (hv_m 2 rfl) ?_
    refine hv_iaload hc sh_a_75 (Nat.le_of_ble_eq_true rfl) dX11_deepIn_65 (fun v1 => ?_)
    refine hv_callVi hc (hrf1 v1 mem) yv_X11_deepIn tw_1468 sh_o_65 rfl rfl rfl rfl (Nat.le_of_ble_eq_true rfl) (by omega) (Nat.zero_le _) (Nat.zero_le _) dX11_deepIn_66 (fun r2 m3 => ?_)
    refine hv_callSi hc (c_J9_max_7cf53 x2 r2 m3) ys_J9_max_7cf53 tw_1472 rfl rfl rfl (Nat.le_of_ble_eq_true rfl) (by omega) (Nat.zero_le _) (Nat.zero_le _) dX11_deepIn_69 (fun r4 m5 => ?_)
    refine hv_istore_n (lv' := [(2, .int (hv_I r4)), (0, .ref (hv_ad X 65)), (3, .int (hv_I x3))]) hc dX11_deepIn_72 rfl (by decide) rfl ?_
    refine hv_aload_n hc dX11_deepIn_73 rfl (hv_m 1 rfl) ?_
    refine hv_getR hc fl_X11_45 sh_o_65 rfl dX11_deepIn_74 ?_
    refine hv_iload_n hc dX11_deepIn_77 rfl (hv_m 2 rfl) ?_
    refine hv_iaload hc sh_a_76 (Nat.le_of_ble_eq_true rfl) dX11_deepIn_78 (fun v6 => ?_)
    refine hv_istore_n (lv' := [(3, .int (hv_I v6)), (2, .int (hv_I r4)), (0, .ref (hv_ad X 65))]) hc dX11_deepIn_79 rfl (by decide) rfl ?_
    refine hv_goto (tgt := 54) hc dX11_deepIn_80 (by decide) ?_
    exact hv_pick [2, 1, 0] rfl (hR54 r4 v6 m5)
theorem g_X11_deepIn_54 {X : hv_X} {d : Nat} (hc : hv_C X cX11_deepIn 4 RX11 (some FieldType.int) (d + 1 + 2) 0 0) (rf0 : Int → hMem → hRs) (hrf0 : ∀ (x1 : Int) (mem : hMem), hv_Met (d + 2) 0 0 0 yX11_deepOf cX11_deepOf 4 (some FieldType.int) (fun ad _ _ => [.ref (ad 65), .int (hv_I x1)]) mem (rf0 x1 mem)) (rf1 : Int → hMem → hRs) (hrf1 : ∀ (x1 : Int) (mem : hMem), hv_Met (d + 2) 0 0 0 yX11_deepIn cX11_deepIn 4 (some FieldType.int) (fun ad _ _ => [.ref (ad 65), .int (hv_I x1)]) mem (rf1 x1 mem)) : ∀ (n : Nat) (x2 x3 : Int) (mem : hMem), hv_R X 4 0 0 (hv_QX X 0 0 0) (L_X11_deepIn_54 rf0 rf1 n x2 x3 mem) mem [] [(0, .ref (hv_ad X 65)), (2, .int (hv_I x2)), (3, .int (hv_I x3))] [] 54 := by
  intro n
  induction n with
  | zero => intros; exact hv_none
  | succ n ih => exact gB_X11_deepIn_54 hc rf0 hrf0 rf1 hrf1 _ ih
def B_X11_deepIn_18 (rf0 : Int → hMem → hRs) (rf1 : Int → hMem → hRs) (R18 : Int → Int → Int → hMem → hRs) (x1 x2 x3 : Int) (mem : hMem) : hRs := hv_lt x3 0 (hv_ald mem 74 8000 x1 (fun v1 => L_X11_deepIn_54 rf0 rf1 hv_FU x2 v1 mem)) (hv_ald mem 75 40000 x3 (fun v2 => hv_b (rf0 v2 mem) (fun r3 m4 => hv_b (f_J9_max_7cf53 x2 r3 m4) (fun r5 m6 => hv_ald m6 76 40000 x3 (fun v7 => R18 x1 r5 v7 m6)))))
def L_X11_deepIn_18 (rf0 : Int → hMem → hRs) (rf1 : Int → hMem → hRs) : Nat → Int → Int → Int → hMem → hRs
  | 0 => fun _ _ _ _ => none
  | n + 1 => B_X11_deepIn_18 rf0 rf1 (L_X11_deepIn_18 rf0 rf1 n)
set_option maxRecDepth 100000 in
theorem gB_X11_deepIn_18 {X : hv_X} {d : Nat} (hc : hv_C X cX11_deepIn 4 RX11 (some FieldType.int) (d + 1 + 2) 0 0) (rf0 : Int → hMem → hRs) (hrf0 : ∀ (x1 : Int) (mem : hMem), hv_Met (d + 2) 0 0 0 yX11_deepOf cX11_deepOf 4 (some FieldType.int) (fun ad _ _ => [.ref (ad 65), .int (hv_I x1)]) mem (rf0 x1 mem)) (rf1 : Int → hMem → hRs) (hrf1 : ∀ (x1 : Int) (mem : hMem), hv_Met (d + 2) 0 0 0 yX11_deepIn cX11_deepIn 4 (some FieldType.int) (fun ad _ _ => [.ref (ad 65), .int (hv_I x1)]) mem (rf1 x1 mem)) (R18 : Int → Int → Int → hMem → hRs) (hR18 : ∀ (x1 x2 x3 : Int) (mem : hMem), hv_R X 4 0 0 (hv_QX X 0 0 0) (R18 x1 x2 x3 mem) mem [] [(0, .ref (hv_ad X 65)), (1, .int (hv_I x1)), (2, .int (hv_I x2)), (3, .int (hv_I x3))] [] 18) (x1 x2 x3 : Int) (mem : hMem) : hv_R X 4 0 0 (hv_QX X 0 0 0) (B_X11_deepIn_18 rf0 rf1 R18 x1 x2 x3 mem) mem [] [(0, .ref (hv_ad X 65)), (1, .int (hv_I x1)), (2, .int (hv_I x2)), (3, .int (hv_I x3))] [] 18 := by
  unfold B_X11_deepIn_18
  refine hv_iload_n hc dX11_deepIn_18 rfl (hv_m 3 rfl) ?_
  refine hv_if_lt (tgt := 47) hc dX11_deepIn_19 (by decide) ?_ ?_
  · refine hv_aload_n hc dX11_deepIn_47 rfl (hv_m 0 rfl) ?_
    refine hv_getR hc fl_X11_38 sh_o_65 rfl dX11_deepIn_48 ?_
    refine hv_iload_n hc dX11_deepIn_51 rfl (hv_m 1 rfl) ?_
    refine hv_iaload hc sh_a_74 (Nat.le_of_ble_eq_true rfl) dX11_deepIn_52 (fun v1 => ?_)
    refine hv_istore_n (lv' := [(3, .int (hv_I v1)), (0, .ref (hv_ad X 65)), (1, .int (hv_I x1)), (2, .int (hv_I x2))]) hc dX11_deepIn_53 rfl (by decide) rfl ?_
    exact hv_pick [1, 3, 0] rfl (g_X11_deepIn_54 hc rf0 hrf0 rf1 hrf1 hv_FU x2 v1 mem)
  · refine hv_iload_n hc dX11_deepIn_22 rfl (hv_m 2 rfl) ?_
    refine hv_aload_n hc dX11_deepIn_23 rfl (hv_m 0 rfl) ?_
    refine hv_aload_n hc dX11_deepIn_24 rfl (hv_m 0 rfl) ?_
    refine hv_getR hc fl_X11_42 sh_o_65 rfl dX11_deepIn_25 ?_
    refine hv_iload_n hc dX11_deepIn_28 rfl (hv_m 3 rfl) ?_
    refine hv_iaload hc sh_a_75 (Nat.le_of_ble_eq_true rfl) dX11_deepIn_29 (fun v2 => ?_)
    refine hv_callVi hc (hrf0 v2 mem) yv_X11_deepOf tw_1464 sh_o_65 rfl rfl rfl rfl (Nat.le_of_ble_eq_true rfl) (by omega) (Nat.zero_le _) (Nat.zero_le _) dX11_deepIn_30 (fun r3 m4 => ?_)
    refine hv_callSi hc (c_J9_max_7cf53 x2 r3 m4) ys_J9_max_7cf53 tw_1472 rfl rfl rfl (Nat.le_of_ble_eq_true rfl) (by omega) (Nat.zero_le _) (Nat.zero_le _) dX11_deepIn_33 (fun r5 m6 => ?_)
    refine hv_istore_n (lv' := [(2, .int (hv_I r5)), (0, .ref (hv_ad X 65)), (1, .int (hv_I x1)), (3, .int (hv_I x3))]) hc dX11_deepIn_36 rfl (by decide) rfl ?_
    refine hv_aload_n hc dX11_deepIn_37 rfl (hv_m 1 rfl) ?_
    refine hv_getR hc fl_X11_45 sh_o_65 rfl dX11_deepIn_38 ?_
    refine hv_iload_n hc dX11_deepIn_41 rfl (hv_m 3 rfl) ?_
    refine hv_iaload hc sh_a_76 (Nat.le_of_ble_eq_true rfl) dX11_deepIn_42 (fun v7 => ?_)
    refine hv_istore_n (lv' := [(3, .int (hv_I v7)), (2, .int (hv_I r5)), (0, .ref (hv_ad X 65)), (1, .int (hv_I x1))]) hc dX11_deepIn_43 rfl (by decide) rfl ?_
    refine hv_goto (tgt := 18) hc dX11_deepIn_44 (by decide) ?_
    exact hv_pick [2, 3, 1, 0] rfl (hR18 x1 r5 v7 m6)
theorem g_X11_deepIn_18 {X : hv_X} {d : Nat} (hc : hv_C X cX11_deepIn 4 RX11 (some FieldType.int) (d + 1 + 2) 0 0) (rf0 : Int → hMem → hRs) (hrf0 : ∀ (x1 : Int) (mem : hMem), hv_Met (d + 2) 0 0 0 yX11_deepOf cX11_deepOf 4 (some FieldType.int) (fun ad _ _ => [.ref (ad 65), .int (hv_I x1)]) mem (rf0 x1 mem)) (rf1 : Int → hMem → hRs) (hrf1 : ∀ (x1 : Int) (mem : hMem), hv_Met (d + 2) 0 0 0 yX11_deepIn cX11_deepIn 4 (some FieldType.int) (fun ad _ _ => [.ref (ad 65), .int (hv_I x1)]) mem (rf1 x1 mem)) : ∀ (n : Nat) (x1 x2 x3 : Int) (mem : hMem), hv_R X 4 0 0 (hv_QX X 0 0 0) (L_X11_deepIn_18 rf0 rf1 n x1 x2 x3 mem) mem [] [(0, .ref (hv_ad X 65)), (1, .int (hv_I x1)), (2, .int (hv_I x2)), (3, .int (hv_I x3))] [] 18 := by
  intro n
  induction n with
  | zero => intros; exact hv_none
  | succ n ih => exact gB_X11_deepIn_18 hc rf0 hrf0 rf1 hrf1 _ ih
def fs_X11_deepIn (rf0 : Int → hMem → hRs) (rf1 : Int → hMem → hRs) (x1 : Int) (mem : hMem) : hRs := hv_ald mem 72 8000 x1 (fun v1 => hv_b (rf0 v1 mem) (fun r2 m3 => hv_ald m3 73 8000 x1 (fun v4 => L_X11_deepIn_18 rf0 rf1 hv_FU x1 r2 v4 m3)))
set_option maxRecDepth 100000 in
set_option maxHeartbeats 4000000 in
theorem cs_X11_deepIn (d : Nat) (rf0 : Int → hMem → hRs) (hrf0 : ∀ (x1 : Int) (mem : hMem), hv_Met (d + 2) 0 0 0 yX11_deepOf cX11_deepOf 4 (some FieldType.int) (fun ad _ _ => [.ref (ad 65), .int (hv_I x1)]) mem (rf0 x1 mem)) (rf1 : Int → hMem → hRs) (hrf1 : ∀ (x1 : Int) (mem : hMem), hv_Met (d + 2) 0 0 0 yX11_deepIn cX11_deepIn 4 (some FieldType.int) (fun ad _ _ => [.ref (ad 65), .int (hv_I x1)]) mem (rf1 x1 mem)) (x1 : Int) (mem : hMem) : hv_Met (d + 1 + 2) 0 0 0 yX11_deepIn cX11_deepIn 4 (some FieldType.int) (fun ad _ _ => [.ref (ad 65), .int (hv_I x1)]) mem (fs_X11_deepIn rf0 rf1 x1 mem) := by
  refine hv_start (by decide +kernel) (fun _ _ _ => Nat.le_of_ble_eq_true rfl) ?_
  intro X hc
  have hc : hv_C X cX11_deepIn 4 RX11 (some FieldType.int) (d + 1 + 2) 0 0 := hc
  show hv_R X 4 0 0 (hv_QX X 0 0 0) (fs_X11_deepIn rf0 rf1 x1 mem) mem [] [(0, .ref (hv_ad X 65)), (1, .int (hv_I x1))] [] 0
  unfold fs_X11_deepIn
  refine hv_aload_n hc dX11_deepIn_0 rfl (hv_m 0 rfl) ?_
  refine hv_aload_n hc dX11_deepIn_1 rfl (hv_m 0 rfl) ?_
  refine hv_getR hc fl_X11_32 sh_o_65 rfl dX11_deepIn_2 ?_
  refine hv_iload_n hc dX11_deepIn_5 rfl (hv_m 1 rfl) ?_
  refine hv_iaload hc sh_a_72 (Nat.le_of_ble_eq_true rfl) dX11_deepIn_6 (fun v1 => ?_)
  refine hv_callVi hc (hrf0 v1 mem) yv_X11_deepOf tw_1464 sh_o_65 rfl rfl rfl rfl (Nat.le_of_ble_eq_true rfl) (by omega) (Nat.zero_le _) (Nat.zero_le _) dX11_deepIn_7 (fun r2 m3 => ?_)
  refine hv_istore_n (lv' := [(2, .int (hv_I r2)), (0, .ref (hv_ad X 65)), (1, .int (hv_I x1))]) hc dX11_deepIn_10 rfl (by decide) rfl ?_
  refine hv_aload_n hc dX11_deepIn_11 rfl (hv_m 1 rfl) ?_
  refine hv_getR hc fl_X11_35 sh_o_65 rfl dX11_deepIn_12 ?_
  refine hv_iload_n hc dX11_deepIn_15 rfl (hv_m 2 rfl) ?_
  refine hv_iaload hc sh_a_73 (Nat.le_of_ble_eq_true rfl) dX11_deepIn_16 (fun v4 => ?_)
  refine hv_istore_n (lv' := [(3, .int (hv_I v4)), (2, .int (hv_I r2)), (0, .ref (hv_ad X 65)), (1, .int (hv_I x1))]) hc dX11_deepIn_17 rfl (by decide) rfl ?_
  exact hv_pick [2, 3, 1, 0] rfl (g_X11_deepIn_18 hc rf0 hrf0 rf1 hrf1 hv_FU x1 r2 v4 m3)
def rr_deep : Nat → Bool → Int → hMem → hRs
  | 0 => fun _ _ _ => none
  | d + 1 => fun w x1 mem => if w = true then fs_X11_deepOf (rr_deep d true) (rr_deep d false) x1 mem else fs_X11_deepIn (rr_deep d true) (rr_deep d false) x1 mem
theorem cr_deep : ∀ d : Nat, (∀ (x1 : Int) (mem : hMem), hv_Met (d + 2) 0 0 0 yX11_deepOf cX11_deepOf 4 (some FieldType.int) (fun ad _ _ => [.ref (ad 65), .int (hv_I x1)]) mem (rr_deep d true x1 mem)) ∧ (∀ (x1 : Int) (mem : hMem), hv_Met (d + 2) 0 0 0 yX11_deepIn cX11_deepIn 4 (some FieldType.int) (fun ad _ _ => [.ref (ad 65), .int (hv_I x1)]) mem (rr_deep d false x1 mem)) := by
  intro d
  induction d with
  | zero => exact ⟨(fun x1 mem l D ca ad ak av sz r m' ht => by cases ht), (fun x1 mem l D ca ad ak av sz r m' ht => by cases ht)⟩
  | succ d ih => exact ⟨(fun x1 mem => cs_X11_deepOf d _ ih.1 _ ih.2 x1 mem), (fun x1 mem => cs_X11_deepIn d _ ih.1 _ ih.2 x1 mem)⟩
def f_X11_deepOf (x1 : Int) (mem : hMem) : hRs := rr_deep 64 true x1 mem
theorem c_X11_deepOf (x1 : Int) (mem : hMem) : hv_Met 66 0 0 0 yX11_deepOf cX11_deepOf 4 (some FieldType.int) (fun ad _ _ => [.ref (ad 65), .int (hv_I x1)]) mem (f_X11_deepOf x1 mem) := (cr_deep 64).1 x1 mem
def f_X11_deepIn (x1 : Int) (mem : hMem) : hRs := rr_deep 64 false x1 mem
theorem c_X11_deepIn (x1 : Int) (mem : hMem) : hv_Met 66 0 0 0 yX11_deepIn cX11_deepIn 4 (some FieldType.int) (fun ad _ _ => [.ref (ad 65), .int (hv_I x1)]) mem (f_X11_deepIn x1 mem) := (cr_deep 64).2 x1 mem
def f_X11_depth (x1 : Int) (mem : hMem) : hRs := hv_b (f_X11_isVersion x1 mem) (fun r1 m2 => hv_eq r1 0 (hv_ret ((-2)) m2) (hv_b (f_X11_heapOf x1 m2) (fun r3 m4 => hv_b (f_X11_deepOf r3 m4) (fun r5 m6 => hv_ret r5 m6))))
set_option maxRecDepth 100000 in
set_option maxHeartbeats 4000000 in
theorem c_X11_depth (x1 : Int) (mem : hMem) : hv_Met 77 0 0 0 yX11_depth cX11_depth 2 (some FieldType.int) (fun ad _ _ => [.ref (ad 65), .int (hv_I x1)]) mem (f_X11_depth x1 mem) := by
  refine hv_start (by decide +kernel) (fun _ _ _ => Nat.le_of_ble_eq_true rfl) ?_
  intro X hc
  have hc : hv_C X cX11_depth 2 RX11 (some FieldType.int) 77 0 0 := hc
  show hv_R X 2 0 0 (hv_QX X 0 0 0) (f_X11_depth x1 mem) mem [] [(0, .ref (hv_ad X 65)), (1, .int (hv_I x1))] [] 0
  unfold f_X11_depth
  refine hv_aload_n hc dX11_depth_0 rfl (hv_m 0 rfl) ?_
  refine hv_iload_n hc dX11_depth_1 rfl (hv_m 1 rfl) ?_
  refine hv_callVi hc (c_X11_isVersion x1 mem) yv_X11_isVersion tw_1308 sh_o_65 rfl rfl rfl rfl (Nat.le_of_ble_eq_true rfl) (Nat.le_of_ble_eq_true rfl) (Nat.zero_le _) (Nat.zero_le _) dX11_depth_2 (fun r1 m2 => ?_)
  refine hv_if_eq (tgt := 20) hc dX11_depth_5 (by decide) ?_ ?_
  · refine hv_bipush hc dX11_depth_20 (by decide) ?_
    exact hv_iret hc dX11_depth_22
  · refine hv_aload_n hc dX11_depth_8 rfl (hv_m 0 rfl) ?_
    refine hv_aload_n hc dX11_depth_9 rfl (hv_m 0 rfl) ?_
    refine hv_iload_n hc dX11_depth_10 rfl (hv_m 1 rfl) ?_
    refine hv_callVi hc (c_X11_heapOf x1 m2) yv_X11_heapOf tw_1388 sh_o_65 rfl rfl rfl rfl (Nat.le_of_ble_eq_true rfl) (Nat.le_of_ble_eq_true rfl) (Nat.zero_le _) (Nat.zero_le _) dX11_depth_11 (fun r3 m4 => ?_)
    refine hv_callVi hc (c_X11_deepOf r3 m4) yv_X11_deepOf tw_1464 sh_o_65 rfl rfl rfl rfl (Nat.le_of_ble_eq_true rfl) (Nat.le_of_ble_eq_true rfl) (Nat.zero_le _) (Nat.zero_le _) dX11_depth_14 (fun r5 m6 => ?_)
    refine hv_goto (tgt := 22) hc dX11_depth_17 (by decide) ?_
    exact hv_iret hc dX11_depth_22
def B_X11_marks_33 (rf0 : Int → Int → hMem → hRs) (rf1 : Int → Int → hMem → hRs) (R33 : Int → Int → hMem → hRs) (x2 x3 : Int) (mem : hMem) : hRs := hv_lt x3 0 (hv_ret 0 mem) (hv_ald mem 75 40000 x3 (fun v1 => hv_b (rf1 v1 x2 mem) (fun r2 m3 => hv_ald m3 76 40000 x3 (fun v4 => R33 x2 v4 m3))))
def L_X11_marks_33 (rf0 : Int → Int → hMem → hRs) (rf1 : Int → Int → hMem → hRs) : Nat → Int → Int → hMem → hRs
  | 0 => fun _ _ _ => none
  | n + 1 => B_X11_marks_33 rf0 rf1 (L_X11_marks_33 rf0 rf1 n)
set_option maxRecDepth 100000 in
theorem gB_X11_marks_33 {X : hv_X} {d : Nat} (hc : hv_C X cX11_marks 4 RX11 (none) (d + 1 + 1) 0 0) (rf0 : Int → Int → hMem → hRs) (hrf0 : ∀ (x1 x2 : Int) (mem : hMem), hv_Met (d + 1) 0 0 1 yX11_marks cX11_marks 4 (none) (fun ad _ _ => [.ref (ad 65), .int (hv_I x1), .int (hv_I x2)]) mem (rf0 x1 x2 mem)) (rf1 : Int → Int → hMem → hRs) (hrf1 : ∀ (x1 x2 : Int) (mem : hMem), hv_Met (d + 1) 0 0 1 yX11_marksTree cX11_marksTree 4 (none) (fun ad _ _ => [.ref (ad 65), .int (hv_I x1), .int (hv_I x2)]) mem (rf1 x1 x2 mem)) (R33 : Int → Int → hMem → hRs) (hR33 : ∀ (x2 x3 : Int) (mem : hMem), hv_R X 4 0 0 (hv_QX X 1 0 0) (R33 x2 x3 mem) mem [] [(0, .ref (hv_ad X 65)), (2, .int (hv_I x2)), (3, .int (hv_I x3))] [] 33) (x2 x3 : Int) (mem : hMem) : hv_R X 4 0 0 (hv_QX X 1 0 0) (B_X11_marks_33 rf0 rf1 R33 x2 x3 mem) mem [] [(0, .ref (hv_ad X 65)), (2, .int (hv_I x2)), (3, .int (hv_I x3))] [] 33 := by
  unfold B_X11_marks_33
  refine hv_iload_n hc dX11_marks_33 rfl (hv_m 2 rfl) ?_
  refine hv_if_lt (tgt := 58) hc dX11_marks_34 (by decide) ?_ ?_
  · exact hv_vret hc dX11_marks_58
  · refine hv_aload_n hc dX11_marks_37 rfl (hv_m 0 rfl) ?_
    refine hv_aload_n hc dX11_marks_38 rfl (hv_m 0 rfl) ?_
    refine hv_getR hc fl_X11_42 sh_o_65 rfl dX11_marks_39 ?_
    refine hv_iload_n hc dX11_marks_42 rfl (hv_m 2 rfl) ?_
    refine hv_iaload hc sh_a_75 (Nat.le_of_ble_eq_true rfl) dX11_marks_43 (fun v1 => ?_)
    refine hv_iload_n hc dX11_marks_44 rfl (hv_m 1 rfl) ?_
    refine hv_callVv hc (hrf1 v1 x2 mem) yv_X11_marksTree tw_1485 sh_o_65 rfl rfl rfl rfl (Nat.le_of_ble_eq_true rfl) (by omega) (Nat.zero_le _) (Nat.zero_le _) dX11_marks_45 (fun r2 m3 => ?_)
    refine hv_aload_n hc dX11_marks_48 rfl (hv_m 0 rfl) ?_
    refine hv_getR hc fl_X11_45 sh_o_65 rfl dX11_marks_49 ?_
    refine hv_iload_n hc dX11_marks_52 rfl (hv_m 2 rfl) ?_
    refine hv_iaload hc sh_a_76 (Nat.le_of_ble_eq_true rfl) dX11_marks_53 (fun v4 => ?_)
    refine hv_istore_n (lv' := [(3, .int (hv_I v4)), (0, .ref (hv_ad X 65)), (2, .int (hv_I x2))]) hc dX11_marks_54 rfl (by decide) rfl ?_
    refine hv_goto (tgt := 33) hc dX11_marks_55 (by decide) ?_
    exact hv_pick [1, 2, 0] rfl (hR33 x2 v4 m3)
theorem g_X11_marks_33 {X : hv_X} {d : Nat} (hc : hv_C X cX11_marks 4 RX11 (none) (d + 1 + 1) 0 0) (rf0 : Int → Int → hMem → hRs) (hrf0 : ∀ (x1 x2 : Int) (mem : hMem), hv_Met (d + 1) 0 0 1 yX11_marks cX11_marks 4 (none) (fun ad _ _ => [.ref (ad 65), .int (hv_I x1), .int (hv_I x2)]) mem (rf0 x1 x2 mem)) (rf1 : Int → Int → hMem → hRs) (hrf1 : ∀ (x1 x2 : Int) (mem : hMem), hv_Met (d + 1) 0 0 1 yX11_marksTree cX11_marksTree 4 (none) (fun ad _ _ => [.ref (ad 65), .int (hv_I x1), .int (hv_I x2)]) mem (rf1 x1 x2 mem)) : ∀ (n : Nat) (x2 x3 : Int) (mem : hMem), hv_R X 4 0 0 (hv_QX X 1 0 0) (L_X11_marks_33 rf0 rf1 n x2 x3 mem) mem [] [(0, .ref (hv_ad X 65)), (2, .int (hv_I x2)), (3, .int (hv_I x3))] [] 33 := by
  intro n
  induction n with
  | zero => intros; exact hv_none
  | succ n ih => exact gB_X11_marks_33 hc rf0 hrf0 rf1 hrf1 _ ih
def fs_X11_marks (rf0 : Int → Int → hMem → hRs) (rf1 : Int → Int → hMem → hRs) (x1 x2 : Int) (mem : hMem) : hRs := hv_lt x1 0 (hv_ret 0 mem) (hv_ald mem 81 8000 x1 (fun v1 => hv_eq (hv_and v1 x2) 0 (hv_ald mem 81 8000 x1 (fun v2 => hv_ast mem 81 8000 x1 (hv_or v2 x2) (fun m3 => hv_ald m3 70 8000 x1 (fun v4 => L_X11_marks_33 rf0 rf1 hv_FU x2 v4 m3)))) (hv_ret 0 mem)))
set_option maxRecDepth 100000 in
set_option maxHeartbeats 4000000 in
theorem cs_X11_marks (d : Nat) (rf0 : Int → Int → hMem → hRs) (hrf0 : ∀ (x1 x2 : Int) (mem : hMem), hv_Met (d + 1) 0 0 1 yX11_marks cX11_marks 4 (none) (fun ad _ _ => [.ref (ad 65), .int (hv_I x1), .int (hv_I x2)]) mem (rf0 x1 x2 mem)) (rf1 : Int → Int → hMem → hRs) (hrf1 : ∀ (x1 x2 : Int) (mem : hMem), hv_Met (d + 1) 0 0 1 yX11_marksTree cX11_marksTree 4 (none) (fun ad _ _ => [.ref (ad 65), .int (hv_I x1), .int (hv_I x2)]) mem (rf1 x1 x2 mem)) (x1 x2 : Int) (mem : hMem) : hv_Met (d + 1 + 1) 0 0 1 yX11_marks cX11_marks 4 (none) (fun ad _ _ => [.ref (ad 65), .int (hv_I x1), .int (hv_I x2)]) mem (fs_X11_marks rf0 rf1 x1 x2 mem) := by
  refine hv_start (by decide +kernel) (fun _ _ _ => Nat.le_of_ble_eq_true rfl) ?_
  intro X hc
  have hc : hv_C X cX11_marks 4 RX11 (none) (d + 1 + 1) 0 0 := hc
  show hv_R X 4 0 0 (hv_QX X 1 0 0) (fs_X11_marks rf0 rf1 x1 x2 mem) mem [] [(0, .ref (hv_ad X 65)), (1, .int (hv_I x1)), (2, .int (hv_I x2))] [] 0
  unfold fs_X11_marks
  refine hv_iload_n hc dX11_marks_0 rfl (hv_m 1 rfl) ?_
  refine hv_if_lt (tgt := 15) hc dX11_marks_1 (by decide) ?_ ?_
  · exact hv_vret hc dX11_marks_15
  · refine hv_aload_n hc dX11_marks_4 rfl (hv_m 0 rfl) ?_
    refine hv_getR hc fl_X11_60 sh_o_65 rfl dX11_marks_5 ?_
    refine hv_iload_n hc dX11_marks_8 rfl (hv_m 1 rfl) ?_
    refine hv_iaload hc sh_a_81 (Nat.le_of_ble_eq_true rfl) dX11_marks_9 (fun v1 => ?_)
    refine hv_iload_n hc dX11_marks_10 rfl (hv_m 2 rfl) ?_
    refine hv_iand hc dX11_marks_11 ?_
    refine hv_if_eq (tgt := 16) hc dX11_marks_12 (by decide) ?_ ?_
    · refine hv_aload_n hc dX11_marks_16 rfl (hv_m 0 rfl) ?_
      refine hv_getR hc fl_X11_60 sh_o_65 rfl dX11_marks_17 ?_
      refine hv_iload_n hc dX11_marks_20 rfl (hv_m 1 rfl) ?_
      refine hv_dup2 hc dX11_marks_21 rfl rfl ?_
      refine hv_iaload hc sh_a_81 (Nat.le_of_ble_eq_true rfl) dX11_marks_22 (fun v2 => ?_)
      refine hv_iload_n hc dX11_marks_23 rfl (hv_m 2 rfl) ?_
      refine hv_ior hc dX11_marks_24 ?_
      refine hv_iastore hc sh_a_81 (Nat.le_of_ble_eq_true rfl) dX11_marks_25 (fun m3 => ?_)
      refine hv_aload_n hc dX11_marks_26 rfl (hv_m 0 rfl) ?_
      refine hv_getR hc fl_X11_26 sh_o_65 rfl dX11_marks_27 ?_
      refine hv_iload_n hc dX11_marks_30 rfl (hv_m 1 rfl) ?_
      refine hv_iaload hc sh_a_70 (Nat.le_of_ble_eq_true rfl) dX11_marks_31 (fun v4 => ?_)
      refine hv_istore_n (lv' := [(3, .int (hv_I v4)), (0, .ref (hv_ad X 65)), (1, .int (hv_I x1)), (2, .int (hv_I x2))]) hc dX11_marks_32 rfl (by decide) rfl ?_
      exact hv_pick [1, 3, 0] rfl (g_X11_marks_33 hc rf0 hrf0 rf1 hrf1 hv_FU x2 v4 m3)
    · exact hv_vret hc dX11_marks_15
def B_X11_marksTree_72 (rf0 : Int → Int → hMem → hRs) (rf1 : Int → Int → hMem → hRs) (R72 : Int → Int → hMem → hRs) (x2 x3 : Int) (mem : hMem) : hRs := hv_lt x3 0 (hv_ret 0 mem) (hv_ald mem 75 40000 x3 (fun v1 => hv_b (rf1 v1 x2 mem) (fun r2 m3 => hv_ald m3 76 40000 x3 (fun v4 => R72 x2 v4 m3))))
def L_X11_marksTree_72 (rf0 : Int → Int → hMem → hRs) (rf1 : Int → Int → hMem → hRs) : Nat → Int → Int → hMem → hRs
  | 0 => fun _ _ _ => none
  | n + 1 => B_X11_marksTree_72 rf0 rf1 (L_X11_marksTree_72 rf0 rf1 n)
set_option maxRecDepth 100000 in
theorem gB_X11_marksTree_72 {X : hv_X} {d : Nat} (hc : hv_C X cX11_marksTree 4 RX11 (none) (d + 1 + 1) 0 0) (rf0 : Int → Int → hMem → hRs) (hrf0 : ∀ (x1 x2 : Int) (mem : hMem), hv_Met (d + 1) 0 0 1 yX11_marks cX11_marks 4 (none) (fun ad _ _ => [.ref (ad 65), .int (hv_I x1), .int (hv_I x2)]) mem (rf0 x1 x2 mem)) (rf1 : Int → Int → hMem → hRs) (hrf1 : ∀ (x1 x2 : Int) (mem : hMem), hv_Met (d + 1) 0 0 1 yX11_marksTree cX11_marksTree 4 (none) (fun ad _ _ => [.ref (ad 65), .int (hv_I x1), .int (hv_I x2)]) mem (rf1 x1 x2 mem)) (R72 : Int → Int → hMem → hRs) (hR72 : ∀ (x2 x3 : Int) (mem : hMem), hv_R X 4 0 0 (hv_QX X 1 0 0) (R72 x2 x3 mem) mem [] [(0, .ref (hv_ad X 65)), (2, .int (hv_I x2)), (3, .int (hv_I x3))] [] 72) (x2 x3 : Int) (mem : hMem) : hv_R X 4 0 0 (hv_QX X 1 0 0) (B_X11_marksTree_72 rf0 rf1 R72 x2 x3 mem) mem [] [(0, .ref (hv_ad X 65)), (2, .int (hv_I x2)), (3, .int (hv_I x3))] [] 72 := by
  unfold B_X11_marksTree_72
  refine hv_iload_n hc dX11_marksTree_72 rfl (hv_m 2 rfl) ?_
  refine hv_if_lt (tgt := 97) hc dX11_marksTree_73 (by decide) ?_ ?_
  · exact hv_vret hc dX11_marksTree_97
  · refine hv_aload_n hc dX11_marksTree_76 rfl (hv_m 0 rfl) ?_
    refine hv_aload_n hc dX11_marksTree_77 rfl (hv_m 0 rfl) ?_
    refine hv_getR hc fl_X11_42 sh_o_65 rfl dX11_marksTree_78 ?_
    refine hv_iload_n hc dX11_marksTree_81 rfl (hv_m 2 rfl) ?_
    refine hv_iaload hc sh_a_75 (Nat.le_of_ble_eq_true rfl) dX11_marksTree_82 (fun v1 => ?_)
    refine hv_iload_n hc dX11_marksTree_83 rfl (hv_m 1 rfl) ?_
    refine hv_callVv hc (hrf1 v1 x2 mem) yv_X11_marksTree tw_1485 sh_o_65 rfl rfl rfl rfl (Nat.le_of_ble_eq_true rfl) (by omega) (Nat.zero_le _) (Nat.zero_le _) dX11_marksTree_84 (fun r2 m3 => ?_)
    refine hv_aload_n hc dX11_marksTree_87 rfl (hv_m 0 rfl) ?_
    refine hv_getR hc fl_X11_45 sh_o_65 rfl dX11_marksTree_88 ?_
    refine hv_iload_n hc dX11_marksTree_91 rfl (hv_m 2 rfl) ?_
    refine hv_iaload hc sh_a_76 (Nat.le_of_ble_eq_true rfl) dX11_marksTree_92 (fun v4 => ?_)
    refine hv_istore_n (lv' := [(3, .int (hv_I v4)), (0, .ref (hv_ad X 65)), (2, .int (hv_I x2))]) hc dX11_marksTree_93 rfl (by decide) rfl ?_
    refine hv_goto (tgt := 72) hc dX11_marksTree_94 (by decide) ?_
    exact hv_pick [1, 2, 0] rfl (hR72 x2 v4 m3)
theorem g_X11_marksTree_72 {X : hv_X} {d : Nat} (hc : hv_C X cX11_marksTree 4 RX11 (none) (d + 1 + 1) 0 0) (rf0 : Int → Int → hMem → hRs) (hrf0 : ∀ (x1 x2 : Int) (mem : hMem), hv_Met (d + 1) 0 0 1 yX11_marks cX11_marks 4 (none) (fun ad _ _ => [.ref (ad 65), .int (hv_I x1), .int (hv_I x2)]) mem (rf0 x1 x2 mem)) (rf1 : Int → Int → hMem → hRs) (hrf1 : ∀ (x1 x2 : Int) (mem : hMem), hv_Met (d + 1) 0 0 1 yX11_marksTree cX11_marksTree 4 (none) (fun ad _ _ => [.ref (ad 65), .int (hv_I x1), .int (hv_I x2)]) mem (rf1 x1 x2 mem)) : ∀ (n : Nat) (x2 x3 : Int) (mem : hMem), hv_R X 4 0 0 (hv_QX X 1 0 0) (L_X11_marksTree_72 rf0 rf1 n x2 x3 mem) mem [] [(0, .ref (hv_ad X 65)), (2, .int (hv_I x2)), (3, .int (hv_I x3))] [] 72 := by
  intro n
  induction n with
  | zero => intros; exact hv_none
  | succ n ih => exact gB_X11_marksTree_72 hc rf0 hrf0 rf1 hrf1 _ ih
def B_X11_marksTree_40 (rf0 : Int → Int → hMem → hRs) (rf1 : Int → Int → hMem → hRs) (R40 : Int → Int → Int → hMem → hRs) (x1 x2 x3 : Int) (mem : hMem) : hRs := hv_lt x3 0 (hv_ald mem 74 8000 x1 (fun v1 => L_X11_marksTree_72 rf0 rf1 hv_FU x2 v1 mem)) (hv_ald mem 75 40000 x3 (fun v2 => hv_b (rf0 v2 x2 mem) (fun r3 m4 => hv_ald m4 76 40000 x3 (fun v5 => R40 x1 x2 v5 m4))))
def L_X11_marksTree_40 (rf0 : Int → Int → hMem → hRs) (rf1 : Int → Int → hMem → hRs) : Nat → Int → Int → Int → hMem → hRs
  | 0 => fun _ _ _ _ => none
  | n + 1 => B_X11_marksTree_40 rf0 rf1 (L_X11_marksTree_40 rf0 rf1 n)
set_option maxRecDepth 100000 in
theorem gB_X11_marksTree_40 {X : hv_X} {d : Nat} (hc : hv_C X cX11_marksTree 4 RX11 (none) (d + 1 + 1) 0 0) (rf0 : Int → Int → hMem → hRs) (hrf0 : ∀ (x1 x2 : Int) (mem : hMem), hv_Met (d + 1) 0 0 1 yX11_marks cX11_marks 4 (none) (fun ad _ _ => [.ref (ad 65), .int (hv_I x1), .int (hv_I x2)]) mem (rf0 x1 x2 mem)) (rf1 : Int → Int → hMem → hRs) (hrf1 : ∀ (x1 x2 : Int) (mem : hMem), hv_Met (d + 1) 0 0 1 yX11_marksTree cX11_marksTree 4 (none) (fun ad _ _ => [.ref (ad 65), .int (hv_I x1), .int (hv_I x2)]) mem (rf1 x1 x2 mem)) (R40 : Int → Int → Int → hMem → hRs) (hR40 : ∀ (x1 x2 x3 : Int) (mem : hMem), hv_R X 4 0 0 (hv_QX X 1 0 0) (R40 x1 x2 x3 mem) mem [] [(0, .ref (hv_ad X 65)), (1, .int (hv_I x1)), (2, .int (hv_I x2)), (3, .int (hv_I x3))] [] 40) (x1 x2 x3 : Int) (mem : hMem) : hv_R X 4 0 0 (hv_QX X 1 0 0) (B_X11_marksTree_40 rf0 rf1 R40 x1 x2 x3 mem) mem [] [(0, .ref (hv_ad X 65)), (1, .int (hv_I x1)), (2, .int (hv_I x2)), (3, .int (hv_I x3))] [] 40 := by
  unfold B_X11_marksTree_40
  refine hv_iload_n hc dX11_marksTree_40 rfl (hv_m 3 rfl) ?_
  refine hv_if_lt (tgt := 65) hc dX11_marksTree_41 (by decide) ?_ ?_
  · refine hv_aload_n hc dX11_marksTree_65 rfl (hv_m 0 rfl) ?_
    refine hv_getR hc fl_X11_38 sh_o_65 rfl dX11_marksTree_66 ?_
    refine hv_iload_n hc dX11_marksTree_69 rfl (hv_m 1 rfl) ?_
    refine hv_iaload hc sh_a_74 (Nat.le_of_ble_eq_true rfl) dX11_marksTree_70 (fun v1 => ?_)
    refine hv_istore_n (lv' := [(3, .int (hv_I v1)), (0, .ref (hv_ad X 65)), (1, .int (hv_I x1)), (2, .int (hv_I x2))]) hc dX11_marksTree_71 rfl (by decide) rfl ?_
    exact hv_pick [1, 3, 0] rfl (g_X11_marksTree_72 hc rf0 hrf0 rf1 hrf1 hv_FU x2 v1 mem)
  · refine hv_aload_n hc dX11_marksTree_44 rfl (hv_m 0 rfl) ?_
    refine hv_aload_n hc dX11_marksTree_45 rfl (hv_m 0 rfl) ?_
    refine hv_getR hc fl_X11_42 sh_o_65 rfl dX11_marksTree_46 ?_
    refine hv_iload_n hc dX11_marksTree_49 rfl (hv_m 3 rfl) ?_
    refine hv_iaload hc sh_a_75 (Nat.le_of_ble_eq_true rfl) dX11_marksTree_50 (fun v2 => ?_)
    refine hv_iload_n hc dX11_marksTree_51 rfl (hv_m 2 rfl) ?_
    refine hv_callVv hc (hrf0 v2 x2 mem) yv_X11_marks tw_1481 sh_o_65 rfl rfl rfl rfl (Nat.le_of_ble_eq_true rfl) (by omega) (Nat.zero_le _) (Nat.zero_le _) dX11_marksTree_52 (fun r3 m4 => ?_)
    refine hv_aload_n hc dX11_marksTree_55 rfl (hv_m 0 rfl) ?_
    refine hv_getR hc fl_X11_45 sh_o_65 rfl dX11_marksTree_56 ?_
    refine hv_iload_n hc dX11_marksTree_59 rfl (hv_m 3 rfl) ?_
    refine hv_iaload hc sh_a_76 (Nat.le_of_ble_eq_true rfl) dX11_marksTree_60 (fun v5 => ?_)
    refine hv_istore_n (lv' := [(3, .int (hv_I v5)), (0, .ref (hv_ad X 65)), (1, .int (hv_I x1)), (2, .int (hv_I x2))]) hc dX11_marksTree_61 rfl (by decide) rfl ?_
    refine hv_goto (tgt := 40) hc dX11_marksTree_62 (by decide) ?_
    exact hv_pick [1, 2, 3, 0] rfl (hR40 x1 x2 v5 m4)
theorem g_X11_marksTree_40 {X : hv_X} {d : Nat} (hc : hv_C X cX11_marksTree 4 RX11 (none) (d + 1 + 1) 0 0) (rf0 : Int → Int → hMem → hRs) (hrf0 : ∀ (x1 x2 : Int) (mem : hMem), hv_Met (d + 1) 0 0 1 yX11_marks cX11_marks 4 (none) (fun ad _ _ => [.ref (ad 65), .int (hv_I x1), .int (hv_I x2)]) mem (rf0 x1 x2 mem)) (rf1 : Int → Int → hMem → hRs) (hrf1 : ∀ (x1 x2 : Int) (mem : hMem), hv_Met (d + 1) 0 0 1 yX11_marksTree cX11_marksTree 4 (none) (fun ad _ _ => [.ref (ad 65), .int (hv_I x1), .int (hv_I x2)]) mem (rf1 x1 x2 mem)) : ∀ (n : Nat) (x1 x2 x3 : Int) (mem : hMem), hv_R X 4 0 0 (hv_QX X 1 0 0) (L_X11_marksTree_40 rf0 rf1 n x1 x2 x3 mem) mem [] [(0, .ref (hv_ad X 65)), (1, .int (hv_I x1)), (2, .int (hv_I x2)), (3, .int (hv_I x3))] [] 40 := by
  intro n
  induction n with
  | zero => intros; exact hv_none
  | succ n ih => exact gB_X11_marksTree_40 hc rf0 hrf0 rf1 hrf1 _ ih
def fs_X11_marksTree (rf0 : Int → Int → hMem → hRs) (rf1 : Int → Int → hMem → hRs) (x1 x2 : Int) (mem : hMem) : hRs := hv_ald mem 82 8000 x1 (fun v1 => hv_eq (hv_and v1 x2) 0 (hv_ald mem 82 8000 x1 (fun v2 => hv_ast mem 82 8000 x1 (hv_or v2 x2) (fun m3 => hv_ald m3 72 8000 x1 (fun v4 => hv_b (rf0 v4 x2 m3) (fun r5 m6 => hv_ald m6 73 8000 x1 (fun v7 => L_X11_marksTree_40 rf0 rf1 hv_FU x1 x2 v7 m6)))))) (hv_ret 0 mem))
set_option maxRecDepth 100000 in
set_option maxHeartbeats 4000000 in
theorem cs_X11_marksTree (d : Nat) (rf0 : Int → Int → hMem → hRs) (hrf0 : ∀ (x1 x2 : Int) (mem : hMem), hv_Met (d + 1) 0 0 1 yX11_marks cX11_marks 4 (none) (fun ad _ _ => [.ref (ad 65), .int (hv_I x1), .int (hv_I x2)]) mem (rf0 x1 x2 mem)) (rf1 : Int → Int → hMem → hRs) (hrf1 : ∀ (x1 x2 : Int) (mem : hMem), hv_Met (d + 1) 0 0 1 yX11_marksTree cX11_marksTree 4 (none) (fun ad _ _ => [.ref (ad 65), .int (hv_I x1), .int (hv_I x2)]) mem (rf1 x1 x2 mem)) (x1 x2 : Int) (mem : hMem) : hv_Met (d + 1 + 1) 0 0 1 yX11_marksTree cX11_marksTree 4 (none) (fun ad _ _ => [.ref (ad 65), .int (hv_I x1), .int (hv_I x2)]) mem (fs_X11_marksTree rf0 rf1 x1 x2 mem) := by
  refine hv_start (by decide +kernel) (fun _ _ _ => Nat.le_of_ble_eq_true rfl) ?_
  intro X hc
  have hc : hv_C X cX11_marksTree 4 RX11 (none) (d + 1 + 1) 0 0 := hc
  show hv_R X 4 0 0 (hv_QX X 1 0 0) (fs_X11_marksTree rf0 rf1 x1 x2 mem) mem [] [(0, .ref (hv_ad X 65)), (1, .int (hv_I x1)), (2, .int (hv_I x2))] [] 0
  unfold fs_X11_marksTree
  refine hv_aload_n hc dX11_marksTree_0 rfl (hv_m 0 rfl) ?_
  refine hv_getR hc fl_X11_63 sh_o_65 rfl dX11_marksTree_1 ?_
  refine hv_iload_n hc dX11_marksTree_4 rfl (hv_m 1 rfl) ?_
  refine hv_iaload hc sh_a_82 (Nat.le_of_ble_eq_true rfl) dX11_marksTree_5 (fun v1 => ?_)
  refine hv_iload_n hc dX11_marksTree_6 rfl (hv_m 2 rfl) ?_
  refine hv_iand hc dX11_marksTree_7 ?_
  refine hv_if_eq (tgt := 12) hc dX11_marksTree_8 (by decide) ?_ ?_
  · refine hv_aload_n hc dX11_marksTree_12 rfl (hv_m 0 rfl) ?_
    refine hv_getR hc fl_X11_63 sh_o_65 rfl dX11_marksTree_13 ?_
    refine hv_iload_n hc dX11_marksTree_16 rfl (hv_m 1 rfl) ?_
    refine hv_dup2 hc dX11_marksTree_17 rfl rfl ?_
    refine hv_iaload hc sh_a_82 (Nat.le_of_ble_eq_true rfl) dX11_marksTree_18 (fun v2 => ?_)
    refine hv_iload_n hc dX11_marksTree_19 rfl (hv_m 2 rfl) ?_
    refine hv_ior hc dX11_marksTree_20 ?_
    refine hv_iastore hc sh_a_82 (Nat.le_of_ble_eq_true rfl) dX11_marksTree_21 (fun m3 => ?_)
    refine hv_aload_n hc dX11_marksTree_22 rfl (hv_m 0 rfl) ?_
    refine hv_aload_n hc dX11_marksTree_23 rfl (hv_m 0 rfl) ?_
    refine hv_getR hc fl_X11_32 sh_o_65 rfl dX11_marksTree_24 ?_
    refine hv_iload_n hc dX11_marksTree_27 rfl (hv_m 1 rfl) ?_
    refine hv_iaload hc sh_a_72 (Nat.le_of_ble_eq_true rfl) dX11_marksTree_28 (fun v4 => ?_)
    refine hv_iload_n hc dX11_marksTree_29 rfl (hv_m 2 rfl) ?_
    refine hv_callVv hc (hrf0 v4 x2 m3) yv_X11_marks tw_1481 sh_o_65 rfl rfl rfl rfl (Nat.le_of_ble_eq_true rfl) (by omega) (Nat.zero_le _) (Nat.zero_le _) dX11_marksTree_30 (fun r5 m6 => ?_)
    refine hv_aload_n hc dX11_marksTree_33 rfl (hv_m 0 rfl) ?_
    refine hv_getR hc fl_X11_35 sh_o_65 rfl dX11_marksTree_34 ?_
    refine hv_iload_n hc dX11_marksTree_37 rfl (hv_m 1 rfl) ?_
    refine hv_iaload hc sh_a_73 (Nat.le_of_ble_eq_true rfl) dX11_marksTree_38 (fun v7 => ?_)
    refine hv_istore_n (lv' := [(3, .int (hv_I v7)), (0, .ref (hv_ad X 65)), (1, .int (hv_I x1)), (2, .int (hv_I x2))]) hc dX11_marksTree_39 rfl (by decide) rfl ?_
    exact hv_pick [1, 2, 3, 0] rfl (g_X11_marksTree_40 hc rf0 hrf0 rf1 hrf1 hv_FU x1 x2 v7 m6)
  · exact hv_vret hc dX11_marksTree_11
def rr_marks : Nat → Bool → Int → Int → hMem → hRs
  | 0 => fun _ _ _ _ => none
  | d + 1 => fun w x1 x2 mem => if w = true then fs_X11_marks (rr_marks d true) (rr_marks d false) x1 x2 mem else fs_X11_marksTree (rr_marks d true) (rr_marks d false) x1 x2 mem
theorem cr_marks : ∀ d : Nat, (∀ (x1 x2 : Int) (mem : hMem), hv_Met (d + 1) 0 0 1 yX11_marks cX11_marks 4 (none) (fun ad _ _ => [.ref (ad 65), .int (hv_I x1), .int (hv_I x2)]) mem (rr_marks d true x1 x2 mem)) ∧ (∀ (x1 x2 : Int) (mem : hMem), hv_Met (d + 1) 0 0 1 yX11_marksTree cX11_marksTree 4 (none) (fun ad _ _ => [.ref (ad 65), .int (hv_I x1), .int (hv_I x2)]) mem (rr_marks d false x1 x2 mem)) := by
  intro d
  induction d with
  | zero => exact ⟨(fun x1 x2 mem l D ca ad ak av sz r m' ht => by cases ht), (fun x1 x2 mem l D ca ad ak av sz r m' ht => by cases ht)⟩
  | succ d ih => exact ⟨(fun x1 x2 mem => cs_X11_marks d _ ih.1 _ ih.2 x1 x2 mem), (fun x1 x2 mem => cs_X11_marksTree d _ ih.1 _ ih.2 x1 x2 mem)⟩
def f_X11_marks (x1 x2 : Int) (mem : hMem) : hRs := rr_marks 64 true x1 x2 mem
theorem c_X11_marks (x1 x2 : Int) (mem : hMem) : hv_Met 65 0 0 1 yX11_marks cX11_marks 4 (none) (fun ad _ _ => [.ref (ad 65), .int (hv_I x1), .int (hv_I x2)]) mem (f_X11_marks x1 x2 mem) := (cr_marks 64).1 x1 x2 mem
def f_X11_marksTree (x1 x2 : Int) (mem : hMem) : hRs := rr_marks 64 false x1 x2 mem
theorem c_X11_marksTree (x1 x2 : Int) (mem : hMem) : hv_Met 65 0 0 1 yX11_marksTree cX11_marksTree 4 (none) (fun ad _ _ => [.ref (ad 65), .int (hv_I x1), .int (hv_I x2)]) mem (f_X11_marksTree x1 x2 mem) := (cr_marks 64).2 x1 x2 mem
def B_X11_clears_25 (R25 : Int → hMem → hRs) (x1 : Int) (mem : hMem) : hRs := hv_lt x1 (mem 65 18) (hv_ast mem 82 8000 x1 0 (fun m1 => hv_set (x1 + 1) (fun y2 => R25 y2 m1))) (hv_ret 0 mem)
def L_X11_clears_25 : Nat → Int → hMem → hRs
  | 0 => fun _ _ => none
  | n + 1 => B_X11_clears_25 (L_X11_clears_25 n)
set_option maxRecDepth 100000 in
theorem gB_X11_clears_25 {X : hv_X} (hc : hv_C X cX11_clears 2 RX11 (none) 0 0 0) (R25 : Int → hMem → hRs) (hR25 : ∀ (x1 : Int) (mem : hMem), hv_R X 2 0 0 (hv_QX X 1 0 0) (R25 x1 mem) mem [] [(0, .ref (hv_ad X 65)), (1, .int (hv_I x1))] [] 25) (x1 : Int) (mem : hMem) : hv_R X 2 0 0 (hv_QX X 1 0 0) (B_X11_clears_25 R25 x1 mem) mem [] [(0, .ref (hv_ad X 65)), (1, .int (hv_I x1))] [] 25 := by
  unfold B_X11_clears_25
  refine hv_iload_n hc dX11_clears_25 rfl (hv_m 1 rfl) ?_
  refine hv_aload_n hc dX11_clears_26 rfl (hv_m 0 rfl) ?_
  refine hv_getI hc fl_X11_192 sh_o_65 rfl dX11_clears_27 ?_
  refine hv_icmp_ge (tgt := 46) hc dX11_clears_30 (by decide) ?_ ?_
  · exact hv_vret hc dX11_clears_46
  · refine hv_aload_n hc dX11_clears_33 rfl (hv_m 0 rfl) ?_
    refine hv_getR hc fl_X11_63 sh_o_65 rfl dX11_clears_34 ?_
    refine hv_iload_n hc dX11_clears_37 rfl (hv_m 1 rfl) ?_
    refine hv_iconst hc dX11_clears_38 ?_
    refine hv_iastore hc sh_a_82 (Nat.le_of_ble_eq_true rfl) dX11_clears_39 (fun m1 => ?_)
    refine hv_iinc_s (lvf := fun y2 => [(1, .int (hv_I y2)), (0, .ref (hv_ad X 65))]) hc dX11_clears_40 (by decide) (hv_m 1 rfl) (fun _ => rfl) (fun y2 => ?_)
    refine hv_goto (tgt := 25) hc dX11_clears_43 (by decide) ?_
    exact hv_pick [1, 0] rfl (hR25 y2 m1)
theorem g_X11_clears_25 {X : hv_X} (hc : hv_C X cX11_clears 2 RX11 (none) 0 0 0) : ∀ (n : Nat) (x1 : Int) (mem : hMem), hv_R X 2 0 0 (hv_QX X 1 0 0) (L_X11_clears_25 n x1 mem) mem [] [(0, .ref (hv_ad X 65)), (1, .int (hv_I x1))] [] 25 := by
  intro n
  induction n with
  | zero => intros; exact hv_none
  | succ n ih => exact gB_X11_clears_25 hc _ ih
def B_X11_clears_2 (R2 : Int → hMem → hRs) (x1 : Int) (mem : hMem) : hRs := hv_lt x1 (mem 65 13) (hv_ast mem 81 8000 x1 0 (fun m1 => hv_set (x1 + 1) (fun y2 => R2 y2 m1))) (L_X11_clears_25 hv_FU 0 mem)
def L_X11_clears_2 : Nat → Int → hMem → hRs
  | 0 => fun _ _ => none
  | n + 1 => B_X11_clears_2 (L_X11_clears_2 n)
set_option maxRecDepth 100000 in
theorem gB_X11_clears_2 {X : hv_X} (hc : hv_C X cX11_clears 2 RX11 (none) 0 0 0) (R2 : Int → hMem → hRs) (hR2 : ∀ (x1 : Int) (mem : hMem), hv_R X 2 0 0 (hv_QX X 1 0 0) (R2 x1 mem) mem [] [(0, .ref (hv_ad X 65)), (1, .int (hv_I x1))] [] 2) (x1 : Int) (mem : hMem) : hv_R X 2 0 0 (hv_QX X 1 0 0) (B_X11_clears_2 R2 x1 mem) mem [] [(0, .ref (hv_ad X 65)), (1, .int (hv_I x1))] [] 2 := by
  unfold B_X11_clears_2
  refine hv_iload_n hc dX11_clears_2 rfl (hv_m 1 rfl) ?_
  refine hv_aload_n hc dX11_clears_3 rfl (hv_m 0 rfl) ?_
  refine hv_getI hc fl_X11_189 sh_o_65 rfl dX11_clears_4 ?_
  refine hv_icmp_ge (tgt := 23) hc dX11_clears_7 (by decide) ?_ ?_
  · refine hv_iconst hc dX11_clears_23 ?_
    refine hv_istore_n (lv' := [(1, .int (hv_I 0)), (0, .ref (hv_ad X 65))]) hc dX11_clears_24 rfl (by decide) rfl ?_
    exact hv_pick [1, 0] rfl (g_X11_clears_25 hc hv_FU 0 mem)
  · refine hv_aload_n hc dX11_clears_10 rfl (hv_m 0 rfl) ?_
    refine hv_getR hc fl_X11_60 sh_o_65 rfl dX11_clears_11 ?_
    refine hv_iload_n hc dX11_clears_14 rfl (hv_m 1 rfl) ?_
    refine hv_iconst hc dX11_clears_15 ?_
    refine hv_iastore hc sh_a_81 (Nat.le_of_ble_eq_true rfl) dX11_clears_16 (fun m1 => ?_)
    refine hv_iinc_s (lvf := fun y2 => [(1, .int (hv_I y2)), (0, .ref (hv_ad X 65))]) hc dX11_clears_17 (by decide) (hv_m 1 rfl) (fun _ => rfl) (fun y2 => ?_)
    refine hv_goto (tgt := 2) hc dX11_clears_20 (by decide) ?_
    exact hv_pick [1, 0] rfl (hR2 y2 m1)
theorem g_X11_clears_2 {X : hv_X} (hc : hv_C X cX11_clears 2 RX11 (none) 0 0 0) : ∀ (n : Nat) (x1 : Int) (mem : hMem), hv_R X 2 0 0 (hv_QX X 1 0 0) (L_X11_clears_2 n x1 mem) mem [] [(0, .ref (hv_ad X 65)), (1, .int (hv_I x1))] [] 2 := by
  intro n
  induction n with
  | zero => intros; exact hv_none
  | succ n ih => exact gB_X11_clears_2 hc _ ih
def f_X11_clears (mem : hMem) : hRs := L_X11_clears_2 hv_FU 0 mem
set_option maxRecDepth 100000 in
set_option maxHeartbeats 4000000 in
theorem c_X11_clears (mem : hMem) : hv_Met 0 0 0 1 yX11_clears cX11_clears 2 (none) (fun ad _ _ => [.ref (ad 65)]) mem (f_X11_clears mem) := by
  refine hv_start (by decide +kernel) (fun _ _ _ => Nat.le_of_ble_eq_true rfl) ?_
  intro X hc
  have hc : hv_C X cX11_clears 2 RX11 (none) 0 0 0 := hc
  show hv_R X 2 0 0 (hv_QX X 1 0 0) (f_X11_clears mem) mem [] [(0, .ref (hv_ad X 65))] [] 0
  unfold f_X11_clears
  refine hv_iconst hc dX11_clears_0 ?_
  refine hv_istore_n (lv' := [(1, .int (hv_I 0)), (0, .ref (hv_ad X 65))]) hc dX11_clears_1 rfl (by decide) rfl ?_
  exact hv_pick [1, 0] rfl (g_X11_clears_2 hc hv_FU 0 mem)
def J_X11_marked_62 (R38 : Int → Int → Int → hMem → hRs) (x1 x3 s0 s1 : Int) (mem : hMem) : hRs := hv_set (s0 + s1) (fun y1 => hv_set (x3 + 1) (fun y2 => R38 x1 y1 y2 mem))
set_option maxRecDepth 100000 in
theorem g_X11_marked_62 {X : hv_X} (hc : hv_C X cX11_marked 4 RX11 (some FieldType.int) 0 0 0) (R38 : Int → Int → Int → hMem → hRs) (hR38 : ∀ (x1 x2 x3 : Int) (mem : hMem), hv_R X 4 0 0 (hv_QX X 0 0 0) (R38 x1 x2 x3 mem) mem [] [(0, .ref (hv_ad X 65)), (1, .int (hv_I x1)), (2, .int (hv_I x2)), (3, .int (hv_I x3))] [] 38) (x1 x3 s0 s1 : Int) (mem : hMem) : hv_R X 4 0 0 (hv_QX X 0 0 0) (J_X11_marked_62 R38 x1 x3 s0 s1 mem) mem [] [(0, .ref (hv_ad X 65)), (1, .int (hv_I x1)), (3, .int (hv_I x3))] [.int (hv_I s1), .int (hv_I s0)] 62 := by
  unfold J_X11_marked_62
  refine hv_iadd hc dX11_marked_62 ?_
  refine hv_istore_ns (lvf := fun y1 => [(2, .int (hv_I y1)), (0, .ref (hv_ad X 65)), (1, .int (hv_I x1)), (3, .int (hv_I x3))]) hc dX11_marked_63 rfl (by decide) (fun _ => rfl) (fun y1 => ?_)
  refine hv_iinc_s (lvf := fun y2 => [(3, .int (hv_I y2)), (2, .int (hv_I y1)), (0, .ref (hv_ad X 65)), (1, .int (hv_I x1))]) hc dX11_marked_64 (by decide) (hv_m 3 rfl) (fun _ => rfl) (fun y2 => ?_)
  refine hv_goto (tgt := 38) hc dX11_marked_67 (by decide) ?_
  exact hv_pick [2, 3, 1, 0] rfl (hR38 x1 y1 y2 mem)
def B_X11_marked_38 (R38 : Int → Int → Int → hMem → hRs) (x1 x2 x3 : Int) (mem : hMem) : hRs := hv_lt x3 (mem 65 18) (hv_ald mem 82 8000 x3 (fun v1 => hv_eq v1 x1 (J_X11_marked_62 R38 x1 x3 x2 1 mem) (J_X11_marked_62 R38 x1 x3 x2 0 mem))) (hv_ret x2 mem)
def L_X11_marked_38 : Nat → Int → Int → Int → hMem → hRs
  | 0 => fun _ _ _ _ => none
  | n + 1 => B_X11_marked_38 (L_X11_marked_38 n)
set_option maxRecDepth 100000 in
theorem gB_X11_marked_38 {X : hv_X} (hc : hv_C X cX11_marked 4 RX11 (some FieldType.int) 0 0 0) (R38 : Int → Int → Int → hMem → hRs) (hR38 : ∀ (x1 x2 x3 : Int) (mem : hMem), hv_R X 4 0 0 (hv_QX X 0 0 0) (R38 x1 x2 x3 mem) mem [] [(0, .ref (hv_ad X 65)), (1, .int (hv_I x1)), (2, .int (hv_I x2)), (3, .int (hv_I x3))] [] 38) (x1 x2 x3 : Int) (mem : hMem) : hv_R X 4 0 0 (hv_QX X 0 0 0) (B_X11_marked_38 R38 x1 x2 x3 mem) mem [] [(0, .ref (hv_ad X 65)), (1, .int (hv_I x1)), (2, .int (hv_I x2)), (3, .int (hv_I x3))] [] 38 := by
  unfold B_X11_marked_38
  refine hv_iload_n hc dX11_marked_38 rfl (hv_m 3 rfl) ?_
  refine hv_aload_n hc dX11_marked_39 rfl (hv_m 0 rfl) ?_
  refine hv_getI hc fl_X11_192 sh_o_65 rfl dX11_marked_40 ?_
  refine hv_icmp_ge (tgt := 70) hc dX11_marked_43 (by decide) ?_ ?_
  · refine hv_iload_n hc dX11_marked_70 rfl (hv_m 2 rfl) ?_
    exact hv_iret hc dX11_marked_71
  · refine hv_iload_n hc dX11_marked_46 rfl (hv_m 2 rfl) ?_
    refine hv_aload_n hc dX11_marked_47 rfl (hv_m 0 rfl) ?_
    refine hv_getR hc fl_X11_63 sh_o_65 rfl dX11_marked_48 ?_
    refine hv_iload_n hc dX11_marked_51 rfl (hv_m 3 rfl) ?_
    refine hv_iaload hc sh_a_82 (Nat.le_of_ble_eq_true rfl) dX11_marked_52 (fun v1 => ?_)
    refine hv_iload_n hc dX11_marked_53 rfl (hv_m 1 rfl) ?_
    refine hv_icmp_ne (tgt := 61) hc dX11_marked_54 (by decide) ?_ ?_
    · refine hv_iconst hc dX11_marked_61 ?_
      exact hv_pick [0, 1, 3] rfl (g_X11_marked_62 hc R38 hR38 x1 x3 x2 0 mem)
    · refine hv_iconst hc dX11_marked_57 ?_
      refine hv_goto (tgt := 62) hc dX11_marked_58 (by decide) ?_
      exact hv_pick [0, 1, 3] rfl (g_X11_marked_62 hc R38 hR38 x1 x3 x2 1 mem)
theorem g_X11_marked_38 {X : hv_X} (hc : hv_C X cX11_marked 4 RX11 (some FieldType.int) 0 0 0) : ∀ (n : Nat) (x1 x2 x3 : Int) (mem : hMem), hv_R X 4 0 0 (hv_QX X 0 0 0) (L_X11_marked_38 n x1 x2 x3 mem) mem [] [(0, .ref (hv_ad X 65)), (1, .int (hv_I x1)), (2, .int (hv_I x2)), (3, .int (hv_I x3))] [] 38 := by
  intro n
  induction n with
  | zero => intros; exact hv_none
  | succ n ih => exact gB_X11_marked_38 hc _ ih
def J_X11_marked_28 (R4 : Int → Int → Int → hMem → hRs) (x1 x3 s0 s1 : Int) (mem : hMem) : hRs := hv_set (s0 + s1) (fun y1 => hv_set (x3 + 1) (fun y2 => R4 x1 y1 y2 mem))
set_option maxRecDepth 100000 in
theorem g_X11_marked_28 {X : hv_X} (hc : hv_C X cX11_marked 4 RX11 (some FieldType.int) 0 0 0) (R4 : Int → Int → Int → hMem → hRs) (hR4 : ∀ (x1 x2 x3 : Int) (mem : hMem), hv_R X 4 0 0 (hv_QX X 0 0 0) (R4 x1 x2 x3 mem) mem [] [(0, .ref (hv_ad X 65)), (1, .int (hv_I x1)), (2, .int (hv_I x2)), (3, .int (hv_I x3))] [] 4) (x1 x3 s0 s1 : Int) (mem : hMem) : hv_R X 4 0 0 (hv_QX X 0 0 0) (J_X11_marked_28 R4 x1 x3 s0 s1 mem) mem [] [(0, .ref (hv_ad X 65)), (1, .int (hv_I x1)), (3, .int (hv_I x3))] [.int (hv_I s1), .int (hv_I s0)] 28 := by
  unfold J_X11_marked_28
  refine hv_iadd hc dX11_marked_28 ?_
  refine hv_istore_ns (lvf := fun y1 => [(2, .int (hv_I y1)), (0, .ref (hv_ad X 65)), (1, .int (hv_I x1)), (3, .int (hv_I x3))]) hc dX11_marked_29 rfl (by decide) (fun _ => rfl) (fun y1 => ?_)
  refine hv_iinc_s (lvf := fun y2 => [(3, .int (hv_I y2)), (2, .int (hv_I y1)), (0, .ref (hv_ad X 65)), (1, .int (hv_I x1))]) hc dX11_marked_30 (by decide) (hv_m 3 rfl) (fun _ => rfl) (fun y2 => ?_)
  refine hv_goto (tgt := 4) hc dX11_marked_33 (by decide) ?_
  exact hv_pick [2, 3, 1, 0] rfl (hR4 x1 y1 y2 mem)
def B_X11_marked_4 (R4 : Int → Int → Int → hMem → hRs) (x1 x2 x3 : Int) (mem : hMem) : hRs := hv_lt x3 (mem 65 13) (hv_ald mem 81 8000 x3 (fun v1 => hv_eq v1 x1 (J_X11_marked_28 R4 x1 x3 x2 1 mem) (J_X11_marked_28 R4 x1 x3 x2 0 mem))) (L_X11_marked_38 hv_FU x1 x2 0 mem)
def L_X11_marked_4 : Nat → Int → Int → Int → hMem → hRs
  | 0 => fun _ _ _ _ => none
  | n + 1 => B_X11_marked_4 (L_X11_marked_4 n)
set_option maxRecDepth 100000 in
theorem gB_X11_marked_4 {X : hv_X} (hc : hv_C X cX11_marked 4 RX11 (some FieldType.int) 0 0 0) (R4 : Int → Int → Int → hMem → hRs) (hR4 : ∀ (x1 x2 x3 : Int) (mem : hMem), hv_R X 4 0 0 (hv_QX X 0 0 0) (R4 x1 x2 x3 mem) mem [] [(0, .ref (hv_ad X 65)), (1, .int (hv_I x1)), (2, .int (hv_I x2)), (3, .int (hv_I x3))] [] 4) (x1 x2 x3 : Int) (mem : hMem) : hv_R X 4 0 0 (hv_QX X 0 0 0) (B_X11_marked_4 R4 x1 x2 x3 mem) mem [] [(0, .ref (hv_ad X 65)), (1, .int (hv_I x1)), (2, .int (hv_I x2)), (3, .int (hv_I x3))] [] 4 := by
  unfold B_X11_marked_4
  refine hv_iload_n hc dX11_marked_4 rfl (hv_m 3 rfl) ?_
  refine hv_aload_n hc dX11_marked_5 rfl (hv_m 0 rfl) ?_
  refine hv_getI hc fl_X11_189 sh_o_65 rfl dX11_marked_6 ?_
  refine hv_icmp_ge (tgt := 36) hc dX11_marked_9 (by decide) ?_ ?_
  · refine hv_iconst hc dX11_marked_36 ?_
    refine hv_istore_n (lv' := [(3, .int (hv_I 0)), (0, .ref (hv_ad X 65)), (1, .int (hv_I x1)), (2, .int (hv_I x2))]) hc dX11_marked_37 rfl (by decide) rfl ?_
    exact hv_pick [1, 2, 3, 0] rfl (g_X11_marked_38 hc hv_FU x1 x2 0 mem)
  · refine hv_iload_n hc dX11_marked_12 rfl (hv_m 2 rfl) ?_
    refine hv_aload_n hc dX11_marked_13 rfl (hv_m 0 rfl) ?_
    refine hv_getR hc fl_X11_60 sh_o_65 rfl dX11_marked_14 ?_
    refine hv_iload_n hc dX11_marked_17 rfl (hv_m 3 rfl) ?_
    refine hv_iaload hc sh_a_81 (Nat.le_of_ble_eq_true rfl) dX11_marked_18 (fun v1 => ?_)
    refine hv_iload_n hc dX11_marked_19 rfl (hv_m 1 rfl) ?_
    refine hv_icmp_ne (tgt := 27) hc dX11_marked_20 (by decide) ?_ ?_
    · refine hv_iconst hc dX11_marked_27 ?_
      exact hv_pick [0, 1, 3] rfl (g_X11_marked_28 hc R4 hR4 x1 x3 x2 0 mem)
    · refine hv_iconst hc dX11_marked_23 ?_
      refine hv_goto (tgt := 28) hc dX11_marked_24 (by decide) ?_
      exact hv_pick [0, 1, 3] rfl (g_X11_marked_28 hc R4 hR4 x1 x3 x2 1 mem)
theorem g_X11_marked_4 {X : hv_X} (hc : hv_C X cX11_marked 4 RX11 (some FieldType.int) 0 0 0) : ∀ (n : Nat) (x1 x2 x3 : Int) (mem : hMem), hv_R X 4 0 0 (hv_QX X 0 0 0) (L_X11_marked_4 n x1 x2 x3 mem) mem [] [(0, .ref (hv_ad X 65)), (1, .int (hv_I x1)), (2, .int (hv_I x2)), (3, .int (hv_I x3))] [] 4 := by
  intro n
  induction n with
  | zero => intros; exact hv_none
  | succ n ih => exact gB_X11_marked_4 hc _ ih
def f_X11_marked (x1 : Int) (mem : hMem) : hRs := L_X11_marked_4 hv_FU x1 0 0 mem
set_option maxRecDepth 100000 in
set_option maxHeartbeats 4000000 in
theorem c_X11_marked (x1 : Int) (mem : hMem) : hv_Met 0 0 0 0 yX11_marked cX11_marked 4 (some FieldType.int) (fun ad _ _ => [.ref (ad 65), .int (hv_I x1)]) mem (f_X11_marked x1 mem) := by
  refine hv_start (by decide +kernel) (fun _ _ _ => Nat.le_of_ble_eq_true rfl) ?_
  intro X hc
  have hc : hv_C X cX11_marked 4 RX11 (some FieldType.int) 0 0 0 := hc
  show hv_R X 4 0 0 (hv_QX X 0 0 0) (f_X11_marked x1 mem) mem [] [(0, .ref (hv_ad X 65)), (1, .int (hv_I x1))] [] 0
  unfold f_X11_marked
  refine hv_iconst hc dX11_marked_0 ?_
  refine hv_istore_n (lv' := [(2, .int (hv_I 0)), (0, .ref (hv_ad X 65)), (1, .int (hv_I x1))]) hc dX11_marked_1 rfl (by decide) rfl ?_
  refine hv_iconst hc dX11_marked_2 ?_
  refine hv_istore_n (lv' := [(3, .int (hv_I 0)), (2, .int (hv_I 0)), (0, .ref (hv_ad X 65)), (1, .int (hv_I x1))]) hc dX11_marked_3 rfl (by decide) rfl ?_
  exact hv_pick [2, 3, 1, 0] rfl (g_X11_marked_4 hc hv_FU x1 0 0 mem)
def f_X11_parts (x1 : Int) (mem : hMem) : hRs := hv_b (f_X11_isVersion x1 mem) (fun r1 m2 => hv_eq r1 0 (hv_ret ((-2)) m2) (hv_ald m2 66 216 0 (fun v3 => hv_b (f_X11_makesAll v3 ((-1)) m2) (fun r4 m5 => hv_b (f_X11_clears m5) (fun r6 m7 => hv_ald m7 77 30 x1 (fun v8 => hv_b (f_X11_marks v8 1 m7) (fun r9 m10 => hv_b (f_X11_marked 1 m10) (fun r11 m12 => hv_ret r11 m12))))))))
set_option maxRecDepth 100000 in
set_option maxHeartbeats 4000000 in
theorem c_X11_parts (x1 : Int) (mem : hMem) : hv_Met 76 0 0 0 yX11_parts cX11_parts 2 (some FieldType.int) (fun ad _ _ => [.ref (ad 65), .int (hv_I x1)]) mem (f_X11_parts x1 mem) := by
  refine hv_start (by decide +kernel) (fun _ _ _ => Nat.le_of_ble_eq_true rfl) ?_
  intro X hc
  have hc : hv_C X cX11_parts 2 RX11 (some FieldType.int) 76 0 0 := hc
  show hv_R X 2 0 0 (hv_QX X 0 0 0) (f_X11_parts x1 mem) mem [] [(0, .ref (hv_ad X 65)), (1, .int (hv_I x1))] [] 0
  unfold f_X11_parts
  refine hv_aload_n hc dX11_parts_0 rfl (hv_m 0 rfl) ?_
  refine hv_iload_n hc dX11_parts_1 rfl (hv_m 1 rfl) ?_
  refine hv_callVi hc (c_X11_isVersion x1 mem) yv_X11_isVersion tw_1308 sh_o_65 rfl rfl rfl rfl (Nat.le_of_ble_eq_true rfl) (Nat.le_of_ble_eq_true rfl) (Nat.zero_le _) (Nat.zero_le _) dX11_parts_2 (fun r1 m2 => ?_)
  refine hv_if_ne (tgt := 11) hc dX11_parts_5 (by decide) ?_ ?_
  · refine hv_aload_n hc dX11_parts_11 rfl (hv_m 0 rfl) ?_
    refine hv_aload_n hc dX11_parts_12 rfl (hv_m 0 rfl) ?_
    refine hv_getR hc fl_X11_9 sh_o_65 rfl dX11_parts_13 ?_
    refine hv_iconst hc dX11_parts_16 ?_
    refine hv_iaload hc sh_a_66 (Nat.le_of_ble_eq_true rfl) dX11_parts_17 (fun v3 => ?_)
    refine hv_iconst hc dX11_parts_18 ?_
    refine hv_callVv hc (c_X11_makesAll v3 ((-1)) m2) yv_X11_makesAll tw_1316 sh_o_65 rfl rfl rfl rfl (Nat.le_of_ble_eq_true rfl) (Nat.le_of_ble_eq_true rfl) (Nat.zero_le _) (Nat.zero_le _) dX11_parts_19 (fun r4 m5 => ?_)
    refine hv_aload_n hc dX11_parts_22 rfl (hv_m 0 rfl) ?_
    refine hv_callVv hc (c_X11_clears m5) yv_X11_clears tw_1477 sh_o_65 rfl rfl rfl rfl (Nat.le_of_ble_eq_true rfl) (Nat.le_of_ble_eq_true rfl) (Nat.zero_le _) (Nat.zero_le _) dX11_parts_23 (fun r6 m7 => ?_)
    refine hv_aload_n hc dX11_parts_26 rfl (hv_m 0 rfl) ?_
    refine hv_aload_n hc dX11_parts_27 rfl (hv_m 0 rfl) ?_
    refine hv_getR hc fl_X11_48 sh_o_65 rfl dX11_parts_28 ?_
    refine hv_iload_n hc dX11_parts_31 rfl (hv_m 1 rfl) ?_
    refine hv_iaload hc sh_a_77 (Nat.le_of_ble_eq_true rfl) dX11_parts_32 (fun v8 => ?_)
    refine hv_iconst hc dX11_parts_33 ?_
    refine hv_callVv hc (c_X11_marks v8 1 m7) yv_X11_marks tw_1481 sh_o_65 rfl rfl rfl rfl (Nat.le_of_ble_eq_true rfl) (Nat.le_of_ble_eq_true rfl) (Nat.zero_le _) (Nat.zero_le _) dX11_parts_34 (fun r9 m10 => ?_)
    refine hv_aload_n hc dX11_parts_37 rfl (hv_m 0 rfl) ?_
    refine hv_iconst hc dX11_parts_38 ?_
    refine hv_callVi hc (c_X11_marked 1 m10) yv_X11_marked tw_1489 sh_o_65 rfl rfl rfl rfl (Nat.le_of_ble_eq_true rfl) (Nat.le_of_ble_eq_true rfl) (Nat.zero_le _) (Nat.zero_le _) dX11_parts_39 (fun r11 m12 => ?_)
    exact hv_iret hc dX11_parts_42
  · refine hv_bipush hc dX11_parts_8 (by decide) ?_
    exact hv_iret hc dX11_parts_10
def J_X11_own_100 (mem : hMem) : hRs := hv_b (f_X11_marked 1 mem) (fun r1 m2 => hv_ret r1 m2)
set_option maxRecDepth 100000 in
theorem g_X11_own_100 {X : hv_X} (hc : hv_C X cX11_own 2 RX11 (some FieldType.int) 76 0 0) (mem : hMem) : hv_R X 2 0 0 (hv_QX X 0 0 0) (J_X11_own_100 mem) mem [] [(0, .ref (hv_ad X 65))] [] 100 := by
  unfold J_X11_own_100
  refine hv_aload_n hc dX11_own_100 rfl (hv_m 0 rfl) ?_
  refine hv_iconst hc dX11_own_101 ?_
  refine hv_callVi hc (c_X11_marked 1 mem) yv_X11_marked tw_1489 sh_o_65 rfl rfl rfl rfl (Nat.le_of_ble_eq_true rfl) (Nat.le_of_ble_eq_true rfl) (Nat.zero_le _) (Nat.zero_le _) dX11_own_102 (fun r1 m2 => ?_)
  exact hv_iret hc dX11_own_105
def J_X11_own_68 (x1 : Int) (mem : hMem) : hRs := hv_ald mem 66 216 (6 + x1) (fun v1 => hv_eq v1 2 (hv_ald mem 66 216 (66 + x1) (fun v2 => hv_ald mem 77 30 v2 (fun v3 => hv_b (f_X11_marks v3 2 mem) (fun r4 m5 => J_X11_own_100 m5)))) (J_X11_own_100 mem))
set_option maxRecDepth 100000 in
theorem g_X11_own_68 {X : hv_X} (hc : hv_C X cX11_own 2 RX11 (some FieldType.int) 76 0 0) (x1 : Int) (mem : hMem) : hv_R X 2 0 0 (hv_QX X 0 0 0) (J_X11_own_68 x1 mem) mem [] [(0, .ref (hv_ad X 65)), (1, .int (hv_I x1))] [] 68 := by
  unfold J_X11_own_68
  refine hv_aload_n hc dX11_own_68 rfl (hv_m 0 rfl) ?_
  refine hv_getR hc fl_X11_9 sh_o_65 rfl dX11_own_69 ?_
  refine hv_bipush hc dX11_own_72 (by decide) ?_
  refine hv_iload_n hc dX11_own_74 rfl (hv_m 1 rfl) ?_
  refine hv_iadd hc dX11_own_75 ?_
  refine hv_iaload hc sh_a_66 (Nat.le_of_ble_eq_true rfl) dX11_own_76 (fun v1 => ?_)
  refine hv_iconst hc dX11_own_77 ?_
  refine hv_icmp_ne (tgt := 100) hc dX11_own_78 (by decide) ?_ ?_
  · exact hv_pick [0] rfl (g_X11_own_100 hc mem)
  · refine hv_aload_n hc dX11_own_81 rfl (hv_m 0 rfl) ?_
    refine hv_aload_n hc dX11_own_82 rfl (hv_m 0 rfl) ?_
    refine hv_getR hc fl_X11_48 sh_o_65 rfl dX11_own_83 ?_
    refine hv_aload_n hc dX11_own_86 rfl (hv_m 0 rfl) ?_
    refine hv_getR hc fl_X11_9 sh_o_65 rfl dX11_own_87 ?_
    refine hv_bipush hc dX11_own_90 (by decide) ?_
    refine hv_iload_n hc dX11_own_92 rfl (hv_m 1 rfl) ?_
    refine hv_iadd hc dX11_own_93 ?_
    refine hv_iaload hc sh_a_66 (Nat.le_of_ble_eq_true rfl) dX11_own_94 (fun v2 => ?_)
    refine hv_iaload hc sh_a_77 (Nat.le_of_ble_eq_true rfl) dX11_own_95 (fun v3 => ?_)
    refine hv_iconst hc dX11_own_96 ?_
    refine hv_callVv hc (c_X11_marks v3 2 mem) yv_X11_marks tw_1481 sh_o_65 rfl rfl rfl rfl (Nat.le_of_ble_eq_true rfl) (Nat.le_of_ble_eq_true rfl) (Nat.zero_le _) (Nat.zero_le _) dX11_own_97 (fun r4 m5 => ?_)
    exact hv_pick [0] rfl (g_X11_own_100 hc m5)
def f_X11_own (x1 : Int) (mem : hMem) : hRs := hv_b (f_X11_isVersion x1 mem) (fun r1 m2 => hv_eq r1 0 (hv_ret ((-2)) m2) (hv_ald m2 66 216 0 (fun v3 => hv_b (f_X11_makesAll v3 ((-1)) m2) (fun r4 m5 => hv_b (f_X11_clears m5) (fun r6 m7 => hv_ald m7 77 30 x1 (fun v8 => hv_b (f_X11_marks v8 1 m7) (fun r9 m10 => hv_ald m10 66 216 (6 + x1) (fun v11 => hv_eq v11 0 (J_X11_own_68 x1 m10) (hv_ald m10 66 216 (36 + x1) (fun v12 => hv_ald m10 77 30 v12 (fun v13 => hv_b (f_X11_marks v13 2 m10) (fun r14 m15 => J_X11_own_68 x1 m15))))))))))))
set_option maxRecDepth 100000 in
set_option maxHeartbeats 4000000 in
theorem c_X11_own (x1 : Int) (mem : hMem) : hv_Met 76 0 0 0 yX11_own cX11_own 2 (some FieldType.int) (fun ad _ _ => [.ref (ad 65), .int (hv_I x1)]) mem (f_X11_own x1 mem) := by
  refine hv_start (by decide +kernel) (fun _ _ _ => Nat.le_of_ble_eq_true rfl) ?_
  intro X hc
  have hc : hv_C X cX11_own 2 RX11 (some FieldType.int) 76 0 0 := hc
  show hv_R X 2 0 0 (hv_QX X 0 0 0) (f_X11_own x1 mem) mem [] [(0, .ref (hv_ad X 65)), (1, .int (hv_I x1))] [] 0
  unfold f_X11_own
  refine hv_aload_n hc dX11_own_0 rfl (hv_m 0 rfl) ?_
  refine hv_iload_n hc dX11_own_1 rfl (hv_m 1 rfl) ?_
  refine hv_callVi hc (c_X11_isVersion x1 mem) yv_X11_isVersion tw_1308 sh_o_65 rfl rfl rfl rfl (Nat.le_of_ble_eq_true rfl) (Nat.le_of_ble_eq_true rfl) (Nat.zero_le _) (Nat.zero_le _) dX11_own_2 (fun r1 m2 => ?_)
  refine hv_if_ne (tgt := 11) hc dX11_own_5 (by decide) ?_ ?_
  · refine hv_aload_n hc dX11_own_11 rfl (hv_m 0 rfl) ?_
    refine hv_aload_n hc dX11_own_12 rfl (hv_m 0 rfl) ?_
    refine hv_getR hc fl_X11_9 sh_o_65 rfl dX11_own_13 ?_
    refine hv_iconst hc dX11_own_16 ?_
    refine hv_iaload hc sh_a_66 (Nat.le_of_ble_eq_true rfl) dX11_own_17 (fun v3 => ?_)
    refine hv_iconst hc dX11_own_18 ?_
    refine hv_callVv hc (c_X11_makesAll v3 ((-1)) m2) yv_X11_makesAll tw_1316 sh_o_65 rfl rfl rfl rfl (Nat.le_of_ble_eq_true rfl) (Nat.le_of_ble_eq_true rfl) (Nat.zero_le _) (Nat.zero_le _) dX11_own_19 (fun r4 m5 => ?_)
    refine hv_aload_n hc dX11_own_22 rfl (hv_m 0 rfl) ?_
    refine hv_callVv hc (c_X11_clears m5) yv_X11_clears tw_1477 sh_o_65 rfl rfl rfl rfl (Nat.le_of_ble_eq_true rfl) (Nat.le_of_ble_eq_true rfl) (Nat.zero_le _) (Nat.zero_le _) dX11_own_23 (fun r6 m7 => ?_)
    refine hv_aload_n hc dX11_own_26 rfl (hv_m 0 rfl) ?_
    refine hv_aload_n hc dX11_own_27 rfl (hv_m 0 rfl) ?_
    refine hv_getR hc fl_X11_48 sh_o_65 rfl dX11_own_28 ?_
    refine hv_iload_n hc dX11_own_31 rfl (hv_m 1 rfl) ?_
    refine hv_iaload hc sh_a_77 (Nat.le_of_ble_eq_true rfl) dX11_own_32 (fun v8 => ?_)
    refine hv_iconst hc dX11_own_33 ?_
    refine hv_callVv hc (c_X11_marks v8 1 m7) yv_X11_marks tw_1481 sh_o_65 rfl rfl rfl rfl (Nat.le_of_ble_eq_true rfl) (Nat.le_of_ble_eq_true rfl) (Nat.zero_le _) (Nat.zero_le _) dX11_own_34 (fun r9 m10 => ?_)
    refine hv_aload_n hc dX11_own_37 rfl (hv_m 0 rfl) ?_
    refine hv_getR hc fl_X11_9 sh_o_65 rfl dX11_own_38 ?_
    refine hv_bipush hc dX11_own_41 (by decide) ?_
    refine hv_iload_n hc dX11_own_43 rfl (hv_m 1 rfl) ?_
    refine hv_iadd hc dX11_own_44 ?_
    refine hv_iaload hc sh_a_66 (Nat.le_of_ble_eq_true rfl) dX11_own_45 (fun v11 => ?_)
    refine hv_if_eq (tgt := 68) hc dX11_own_46 (by decide) ?_ ?_
    · exact hv_pick [0, 1] rfl (g_X11_own_68 hc x1 m10)
    · refine hv_aload_n hc dX11_own_49 rfl (hv_m 0 rfl) ?_
      refine hv_aload_n hc dX11_own_50 rfl (hv_m 0 rfl) ?_
      refine hv_getR hc fl_X11_48 sh_o_65 rfl dX11_own_51 ?_
      refine hv_aload_n hc dX11_own_54 rfl (hv_m 0 rfl) ?_
      refine hv_getR hc fl_X11_9 sh_o_65 rfl dX11_own_55 ?_
      refine hv_bipush hc dX11_own_58 (by decide) ?_
      refine hv_iload_n hc dX11_own_60 rfl (hv_m 1 rfl) ?_
      refine hv_iadd hc dX11_own_61 ?_
      refine hv_iaload hc sh_a_66 (Nat.le_of_ble_eq_true rfl) dX11_own_62 (fun v12 => ?_)
      refine hv_iaload hc sh_a_77 (Nat.le_of_ble_eq_true rfl) dX11_own_63 (fun v13 => ?_)
      refine hv_iconst hc dX11_own_64 ?_
      refine hv_callVv hc (c_X11_marks v13 2 m10) yv_X11_marks tw_1481 sh_o_65 rfl rfl rfl rfl (Nat.le_of_ble_eq_true rfl) (Nat.le_of_ble_eq_true rfl) (Nat.zero_le _) (Nat.zero_le _) dX11_own_65 (fun r14 m15 => ?_)
      exact hv_pick [0, 1] rfl (g_X11_own_68 hc x1 m15)
  · refine hv_bipush hc dX11_own_8 (by decide) ?_
    exact hv_iret hc dX11_own_10
def f_X11_shared (x1 x2 : Int) (mem : hMem) : hRs := hv_b (f_X11_isVersion x1 mem) (fun r1 m2 => hv_eq r1 0 (hv_ret ((-2)) m2) (hv_b (f_X11_isVersion x2 m2) (fun r3 m4 => hv_eq r3 0 (hv_ret ((-2)) m4) (hv_ald m4 66 216 0 (fun v5 => hv_b (f_X11_makesAll v5 ((-1)) m4) (fun r6 m7 => hv_b (f_X11_clears m7) (fun r8 m9 => hv_ald m9 77 30 x1 (fun v10 => hv_b (f_X11_marks v10 1 m9) (fun r11 m12 => hv_ald m12 77 30 x2 (fun v13 => hv_b (f_X11_marks v13 2 m12) (fun r14 m15 => hv_b (f_X11_marked 3 m15) (fun r16 m17 => hv_ret r16 m17))))))))))))
set_option maxRecDepth 100000 in
set_option maxHeartbeats 4000000 in
theorem c_X11_shared (x1 x2 : Int) (mem : hMem) : hv_Met 76 0 0 0 yX11_shared cX11_shared 3 (some FieldType.int) (fun ad _ _ => [.ref (ad 65), .int (hv_I x1), .int (hv_I x2)]) mem (f_X11_shared x1 x2 mem) := by
  refine hv_start (by decide +kernel) (fun _ _ _ => Nat.le_of_ble_eq_true rfl) ?_
  intro X hc
  have hc : hv_C X cX11_shared 3 RX11 (some FieldType.int) 76 0 0 := hc
  show hv_R X 3 0 0 (hv_QX X 0 0 0) (f_X11_shared x1 x2 mem) mem [] [(0, .ref (hv_ad X 65)), (1, .int (hv_I x1)), (2, .int (hv_I x2))] [] 0
  unfold f_X11_shared
  refine hv_aload_n hc dX11_shared_0 rfl (hv_m 0 rfl) ?_
  refine hv_iload_n hc dX11_shared_1 rfl (hv_m 1 rfl) ?_
  refine hv_callVi hc (c_X11_isVersion x1 mem) yv_X11_isVersion tw_1308 sh_o_65 rfl rfl rfl rfl (Nat.le_of_ble_eq_true rfl) (Nat.le_of_ble_eq_true rfl) (Nat.zero_le _) (Nat.zero_le _) dX11_shared_2 (fun r1 m2 => ?_)
  refine hv_if_eq (tgt := 16) hc dX11_shared_5 (by decide) ?_ ?_
  · refine hv_bipush hc dX11_shared_16 (by decide) ?_
    exact hv_iret hc dX11_shared_18
  · refine hv_aload_n hc dX11_shared_8 rfl (hv_m 0 rfl) ?_
    refine hv_iload_n hc dX11_shared_9 rfl (hv_m 2 rfl) ?_
    refine hv_callVi hc (c_X11_isVersion x2 m2) yv_X11_isVersion tw_1308 sh_o_65 rfl rfl rfl rfl (Nat.le_of_ble_eq_true rfl) (Nat.le_of_ble_eq_true rfl) (Nat.zero_le _) (Nat.zero_le _) dX11_shared_10 (fun r3 m4 => ?_)
    refine hv_if_ne (tgt := 19) hc dX11_shared_13 (by decide) ?_ ?_
    · refine hv_aload_n hc dX11_shared_19 rfl (hv_m 0 rfl) ?_
      refine hv_aload_n hc dX11_shared_20 rfl (hv_m 0 rfl) ?_
      refine hv_getR hc fl_X11_9 sh_o_65 rfl dX11_shared_21 ?_
      refine hv_iconst hc dX11_shared_24 ?_
      refine hv_iaload hc sh_a_66 (Nat.le_of_ble_eq_true rfl) dX11_shared_25 (fun v5 => ?_)
      refine hv_iconst hc dX11_shared_26 ?_
      refine hv_callVv hc (c_X11_makesAll v5 ((-1)) m4) yv_X11_makesAll tw_1316 sh_o_65 rfl rfl rfl rfl (Nat.le_of_ble_eq_true rfl) (Nat.le_of_ble_eq_true rfl) (Nat.zero_le _) (Nat.zero_le _) dX11_shared_27 (fun r6 m7 => ?_)
      refine hv_aload_n hc dX11_shared_30 rfl (hv_m 0 rfl) ?_
      refine hv_callVv hc (c_X11_clears m7) yv_X11_clears tw_1477 sh_o_65 rfl rfl rfl rfl (Nat.le_of_ble_eq_true rfl) (Nat.le_of_ble_eq_true rfl) (Nat.zero_le _) (Nat.zero_le _) dX11_shared_31 (fun r8 m9 => ?_)
      refine hv_aload_n hc dX11_shared_34 rfl (hv_m 0 rfl) ?_
      refine hv_aload_n hc dX11_shared_35 rfl (hv_m 0 rfl) ?_
      refine hv_getR hc fl_X11_48 sh_o_65 rfl dX11_shared_36 ?_
      refine hv_iload_n hc dX11_shared_39 rfl (hv_m 1 rfl) ?_
      refine hv_iaload hc sh_a_77 (Nat.le_of_ble_eq_true rfl) dX11_shared_40 (fun v10 => ?_)
      refine hv_iconst hc dX11_shared_41 ?_
      refine hv_callVv hc (c_X11_marks v10 1 m9) yv_X11_marks tw_1481 sh_o_65 rfl rfl rfl rfl (Nat.le_of_ble_eq_true rfl) (Nat.le_of_ble_eq_true rfl) (Nat.zero_le _) (Nat.zero_le _) dX11_shared_42 (fun r11 m12 => ?_)
      refine hv_aload_n hc dX11_shared_45 rfl (hv_m 0 rfl) ?_
      refine hv_aload_n hc dX11_shared_46 rfl (hv_m 0 rfl) ?_
      refine hv_getR hc fl_X11_48 sh_o_65 rfl dX11_shared_47 ?_
      refine hv_iload_n hc dX11_shared_50 rfl (hv_m 2 rfl) ?_
      refine hv_iaload hc sh_a_77 (Nat.le_of_ble_eq_true rfl) dX11_shared_51 (fun v13 => ?_)
      refine hv_iconst hc dX11_shared_52 ?_
      refine hv_callVv hc (c_X11_marks v13 2 m12) yv_X11_marks tw_1481 sh_o_65 rfl rfl rfl rfl (Nat.le_of_ble_eq_true rfl) (Nat.le_of_ble_eq_true rfl) (Nat.zero_le _) (Nat.zero_le _) dX11_shared_53 (fun r14 m15 => ?_)
      refine hv_aload_n hc dX11_shared_56 rfl (hv_m 0 rfl) ?_
      refine hv_iconst hc dX11_shared_57 ?_
      refine hv_callVi hc (c_X11_marked 3 m15) yv_X11_marked tw_1489 sh_o_65 rfl rfl rfl rfl (Nat.le_of_ble_eq_true rfl) (Nat.le_of_ble_eq_true rfl) (Nat.zero_le _) (Nat.zero_le _) dX11_shared_58 (fun r16 m17 => ?_)
      exact hv_iret hc dX11_shared_61
    · refine hv_bipush hc dX11_shared_16 (by decide) ?_
      exact hv_iret hc dX11_shared_18
def f_X11_by (x1 x2 : Int) (mem : hMem) : hRs := hv_b (f_X11_isVersion x2 mem) (fun r1 m2 => hv_eq r1 0 (hv_ret ((-2)) m2) (hv_rg x1 (hv_b (f_X11_in x1 0 1 m2) (fun r3 m4 => hv_eq r3 0 (hv_ret ((-2)) m4) (hv_b (f_X11_makesAll x1 ((-1)) m4) (fun r5 m6 => hv_ald m6 78 30 x2 (fun v7 => hv_ret v7 m6)))))))
set_option maxRecDepth 100000 in
set_option maxHeartbeats 4000000 in
theorem c_X11_by (x1 x2 : Int) (mem : hMem) : hv_Met 76 0 0 0 yX11_by cX11_by 3 (some FieldType.int) (fun ad _ _ => [.ref (ad 65), .int (hv_I x1), .int (hv_I x2)]) mem (f_X11_by x1 x2 mem) := by
  refine hv_start (by decide +kernel) (fun _ _ _ => Nat.le_of_ble_eq_true rfl) ?_
  intro X hc
  have hc : hv_C X cX11_by 3 RX11 (some FieldType.int) 76 0 0 := hc
  show hv_R X 3 0 0 (hv_QX X 0 0 0) (f_X11_by x1 x2 mem) mem [] [(0, .ref (hv_ad X 65)), (1, .int (hv_I x1)), (2, .int (hv_I x2))] [] 0
  unfold f_X11_by
  refine hv_aload_n hc dX11_by_0 rfl (hv_m 0 rfl) ?_
  refine hv_iload_n hc dX11_by_1 rfl (hv_m 2 rfl) ?_
  refine hv_callVi hc (c_X11_isVersion x2 mem) yv_X11_isVersion tw_1308 sh_o_65 rfl rfl rfl rfl (Nat.le_of_ble_eq_true rfl) (Nat.le_of_ble_eq_true rfl) (Nat.zero_le _) (Nat.zero_le _) dX11_by_2 (fun r1 m2 => ?_)
  refine hv_if_eq (tgt := 18) hc dX11_by_5 (by decide) ?_ ?_
  · refine hv_bipush hc dX11_by_18 (by decide) ?_
    exact hv_iret hc dX11_by_20
  · refine hv_iload_n hc dX11_by_8 rfl (hv_m 1 rfl) ?_
    refine hv_i2l hc dX11_by_9 ?_
    refine hv_lconst (k := 0) hc dX11_by_10 (by decide) ?_
    refine hv_lconst (k := 1) hc dX11_by_11 (by decide) ?_
    refine hv_callSi hc (c_X11_in x1 0 1 m2) ys_X11_in tw_1233 rfl rfl rfl (Nat.le_of_ble_eq_true rfl) (Nat.le_of_ble_eq_true rfl) (Nat.zero_le _) (Nat.zero_le _) dX11_by_12 (fun r3 m4 => ?_)
    refine hv_if_ne (tgt := 21) hc dX11_by_15 (by decide) ?_ ?_
    · refine hv_aload_n hc dX11_by_21 rfl (hv_m 0 rfl) ?_
      refine hv_iload_n hc dX11_by_22 rfl (hv_m 1 rfl) ?_
      refine hv_iconst hc dX11_by_23 ?_
      refine hv_callVv hc (c_X11_makesAll x1 ((-1)) m4) yv_X11_makesAll tw_1316 sh_o_65 rfl rfl rfl rfl (Nat.le_of_ble_eq_true rfl) (Nat.le_of_ble_eq_true rfl) (Nat.zero_le _) (Nat.zero_le _) dX11_by_24 (fun r5 m6 => ?_)
      refine hv_aload_n hc dX11_by_27 rfl (hv_m 0 rfl) ?_
      refine hv_getR hc fl_X11_51 sh_o_65 rfl dX11_by_28 ?_
      refine hv_iload_n hc dX11_by_31 rfl (hv_m 2 rfl) ?_
      refine hv_iaload hc sh_a_78 (Nat.le_of_ble_eq_true rfl) dX11_by_32 (fun v7 => ?_)
      exact hv_iret hc dX11_by_33
    · refine hv_bipush hc dX11_by_18 (by decide) ?_
      exact hv_iret hc dX11_by_20
def f_X11_links (x1 : Int) (mem : hMem) : hRs := hv_b (f_X11_isVersion x1 mem) (fun r1 m2 => hv_eq r1 0 (hv_ret ((-2)) m2) (hv_ald m2 66 216 0 (fun v3 => hv_b (f_X11_by v3 x1 m2) (fun r4 m5 => hv_ret r4 m5))))
set_option maxRecDepth 100000 in
set_option maxHeartbeats 4000000 in
theorem c_X11_links (x1 : Int) (mem : hMem) : hv_Met 77 0 0 0 yX11_links cX11_links 2 (some FieldType.int) (fun ad _ _ => [.ref (ad 65), .int (hv_I x1)]) mem (f_X11_links x1 mem) := by
  refine hv_start (by decide +kernel) (fun _ _ _ => Nat.le_of_ble_eq_true rfl) ?_
  intro X hc
  have hc : hv_C X cX11_links 2 RX11 (some FieldType.int) 77 0 0 := hc
  show hv_R X 2 0 0 (hv_QX X 0 0 0) (f_X11_links x1 mem) mem [] [(0, .ref (hv_ad X 65)), (1, .int (hv_I x1))] [] 0
  unfold f_X11_links
  refine hv_aload_n hc dX11_links_0 rfl (hv_m 0 rfl) ?_
  refine hv_iload_n hc dX11_links_1 rfl (hv_m 1 rfl) ?_
  refine hv_callVi hc (c_X11_isVersion x1 mem) yv_X11_isVersion tw_1308 sh_o_65 rfl rfl rfl rfl (Nat.le_of_ble_eq_true rfl) (Nat.le_of_ble_eq_true rfl) (Nat.zero_le _) (Nat.zero_le _) dX11_links_2 (fun r1 m2 => ?_)
  refine hv_if_eq (tgt := 22) hc dX11_links_5 (by decide) ?_ ?_
  · refine hv_bipush hc dX11_links_22 (by decide) ?_
    exact hv_iret hc dX11_links_24
  · refine hv_aload_n hc dX11_links_8 rfl (hv_m 0 rfl) ?_
    refine hv_aload_n hc dX11_links_9 rfl (hv_m 0 rfl) ?_
    refine hv_getR hc fl_X11_9 sh_o_65 rfl dX11_links_10 ?_
    refine hv_iconst hc dX11_links_13 ?_
    refine hv_iaload hc sh_a_66 (Nat.le_of_ble_eq_true rfl) dX11_links_14 (fun v3 => ?_)
    refine hv_iload_n hc dX11_links_15 rfl (hv_m 1 rfl) ?_
    refine hv_callVi hc (c_X11_by v3 x1 m2) yv_X11_by tw_1505 sh_o_65 rfl rfl rfl rfl (Nat.le_of_ble_eq_true rfl) (Nat.le_of_ble_eq_true rfl) (Nat.zero_le _) (Nat.zero_le _) dX11_links_16 (fun r4 m5 => ?_)
    refine hv_goto (tgt := 24) hc dX11_links_19 (by decide) ?_
    exact hv_iret hc dX11_links_24
def B_X11_allBy_10 (R10 : Int → Int → hMem → hRs) (x2 x3 : Int) (mem : hMem) : hRs := hv_ald mem 66 216 2 (fun v1 => hv_lt x3 v1 (hv_ald mem 78 30 x3 (fun v2 => hv_set (x2 + v2) (fun y3 => hv_set (x3 + 1) (fun y4 => R10 y3 y4 mem)))) (hv_ret x2 mem))
def L_X11_allBy_10 : Nat → Int → Int → hMem → hRs
  | 0 => fun _ _ _ => none
  | n + 1 => B_X11_allBy_10 (L_X11_allBy_10 n)
set_option maxRecDepth 100000 in
theorem gB_X11_allBy_10 {X : hv_X} (hc : hv_C X cX11_allBy 4 RX11 (some FieldType.int) 76 0 0) (R10 : Int → Int → hMem → hRs) (hR10 : ∀ (x2 x3 : Int) (mem : hMem), hv_R X 4 0 0 (hv_QX X 0 0 0) (R10 x2 x3 mem) mem [] [(0, .ref (hv_ad X 65)), (2, .int (hv_I x2)), (3, .int (hv_I x3))] [] 10) (x2 x3 : Int) (mem : hMem) : hv_R X 4 0 0 (hv_QX X 0 0 0) (B_X11_allBy_10 R10 x2 x3 mem) mem [] [(0, .ref (hv_ad X 65)), (2, .int (hv_I x2)), (3, .int (hv_I x3))] [] 10 := by
  unfold B_X11_allBy_10
  refine hv_iload_n hc dX11_allBy_10 rfl (hv_m 2 rfl) ?_
  refine hv_aload_n hc dX11_allBy_11 rfl (hv_m 0 rfl) ?_
  refine hv_getR hc fl_X11_9 sh_o_65 rfl dX11_allBy_12 ?_
  refine hv_iconst hc dX11_allBy_15 ?_
  refine hv_iaload hc sh_a_66 (Nat.le_of_ble_eq_true rfl) dX11_allBy_16 (fun v1 => ?_)
  refine hv_icmp_ge (tgt := 35) hc dX11_allBy_17 (by decide) ?_ ?_
  · refine hv_iload_n hc dX11_allBy_35 rfl (hv_m 1 rfl) ?_
    exact hv_iret hc dX11_allBy_36
  · refine hv_iload_n hc dX11_allBy_20 rfl (hv_m 1 rfl) ?_
    refine hv_aload_n hc dX11_allBy_21 rfl (hv_m 0 rfl) ?_
    refine hv_getR hc fl_X11_51 sh_o_65 rfl dX11_allBy_22 ?_
    refine hv_iload_n hc dX11_allBy_25 rfl (hv_m 2 rfl) ?_
    refine hv_iaload hc sh_a_78 (Nat.le_of_ble_eq_true rfl) dX11_allBy_26 (fun v2 => ?_)
    refine hv_iadd hc dX11_allBy_27 ?_
    refine hv_istore_ns (lvf := fun y3 => [(2, .int (hv_I y3)), (0, .ref (hv_ad X 65)), (3, .int (hv_I x3))]) hc dX11_allBy_28 rfl (by decide) (fun _ => rfl) (fun y3 => ?_)
    refine hv_iinc_s (lvf := fun y4 => [(3, .int (hv_I y4)), (2, .int (hv_I y3)), (0, .ref (hv_ad X 65))]) hc dX11_allBy_29 (by decide) (hv_m 2 rfl) (fun _ => rfl) (fun y4 => ?_)
    refine hv_goto (tgt := 10) hc dX11_allBy_32 (by decide) ?_
    exact hv_pick [2, 1, 0] rfl (hR10 y3 y4 mem)
theorem g_X11_allBy_10 {X : hv_X} (hc : hv_C X cX11_allBy 4 RX11 (some FieldType.int) 76 0 0) : ∀ (n : Nat) (x2 x3 : Int) (mem : hMem), hv_R X 4 0 0 (hv_QX X 0 0 0) (L_X11_allBy_10 n x2 x3 mem) mem [] [(0, .ref (hv_ad X 65)), (2, .int (hv_I x2)), (3, .int (hv_I x3))] [] 10 := by
  intro n
  induction n with
  | zero => intros; exact hv_none
  | succ n ih => exact gB_X11_allBy_10 hc _ ih
def f_X11_allBy (x1 : Int) (mem : hMem) : hRs := hv_b (f_X11_makesAll x1 ((-1)) mem) (fun r1 m2 => L_X11_allBy_10 hv_FU 0 0 m2)
set_option maxRecDepth 100000 in
set_option maxHeartbeats 4000000 in
theorem c_X11_allBy (x1 : Int) (mem : hMem) : hv_Met 76 0 0 0 yX11_allBy cX11_allBy 4 (some FieldType.int) (fun ad _ _ => [.ref (ad 65), .int (hv_I x1)]) mem (f_X11_allBy x1 mem) := by
  refine hv_start (by decide +kernel) (fun _ _ _ => Nat.le_of_ble_eq_true rfl) ?_
  intro X hc
  have hc : hv_C X cX11_allBy 4 RX11 (some FieldType.int) 76 0 0 := hc
  show hv_R X 4 0 0 (hv_QX X 0 0 0) (f_X11_allBy x1 mem) mem [] [(0, .ref (hv_ad X 65)), (1, .int (hv_I x1))] [] 0
  unfold f_X11_allBy
  refine hv_aload_n hc dX11_allBy_0 rfl (hv_m 0 rfl) ?_
  refine hv_iload_n hc dX11_allBy_1 rfl (hv_m 1 rfl) ?_
  refine hv_iconst hc dX11_allBy_2 ?_
  refine hv_callVv hc (c_X11_makesAll x1 ((-1)) mem) yv_X11_makesAll tw_1316 sh_o_65 rfl rfl rfl rfl (Nat.le_of_ble_eq_true rfl) (Nat.le_of_ble_eq_true rfl) (Nat.zero_le _) (Nat.zero_le _) dX11_allBy_3 (fun r1 m2 => ?_)
  refine hv_iconst hc dX11_allBy_6 ?_
  refine hv_istore_n (lv' := [(2, .int (hv_I 0)), (0, .ref (hv_ad X 65)), (1, .int (hv_I x1))]) hc dX11_allBy_7 rfl (by decide) rfl ?_
  refine hv_iconst hc dX11_allBy_8 ?_
  refine hv_istore_n (lv' := [(3, .int (hv_I 0)), (2, .int (hv_I 0)), (0, .ref (hv_ad X 65)), (1, .int (hv_I x1))]) hc dX11_allBy_9 rfl (by decide) rfl ?_
  exact hv_pick [2, 1, 0] rfl (g_X11_allBy_10 hc hv_FU 0 0 m2)
def f_X11_all (mem : hMem) : hRs := hv_ald mem 66 216 5 (fun v1 => hv_lt 0 v1 (hv_ald mem 66 216 0 (fun v2 => hv_b (f_X11_allBy v2 mem) (fun r3 m4 => hv_ret r3 m4))) (hv_ret ((-2)) mem))
set_option maxRecDepth 100000 in
set_option maxHeartbeats 4000000 in
theorem c_X11_all (mem : hMem) : hv_Met 77 0 0 0 yX11_all cX11_all 1 (some FieldType.int) (fun ad _ _ => [.ref (ad 65)]) mem (f_X11_all mem) := by
  refine hv_start (by decide +kernel) (fun _ _ _ => Nat.le_of_ble_eq_true rfl) ?_
  intro X hc
  have hc : hv_C X cX11_all 1 RX11 (some FieldType.int) 77 0 0 := hc
  show hv_R X 1 0 0 (hv_QX X 0 0 0) (f_X11_all mem) mem [] [(0, .ref (hv_ad X 65))] [] 0
  unfold f_X11_all
  refine hv_aload_n hc dX11_all_0 rfl (hv_m 0 rfl) ?_
  refine hv_getR hc fl_X11_9 sh_o_65 rfl dX11_all_1 ?_
  refine hv_iconst hc dX11_all_4 ?_
  refine hv_iaload hc sh_a_66 (Nat.le_of_ble_eq_true rfl) dX11_all_5 (fun v1 => ?_)
  refine hv_if_le (tgt := 22) hc dX11_all_6 (by decide) ?_ ?_
  · refine hv_bipush hc dX11_all_22 (by decide) ?_
    exact hv_iret hc dX11_all_24
  · refine hv_aload_n hc dX11_all_9 rfl (hv_m 0 rfl) ?_
    refine hv_aload_n hc dX11_all_10 rfl (hv_m 0 rfl) ?_
    refine hv_getR hc fl_X11_9 sh_o_65 rfl dX11_all_11 ?_
    refine hv_iconst hc dX11_all_14 ?_
    refine hv_iaload hc sh_a_66 (Nat.le_of_ble_eq_true rfl) dX11_all_15 (fun v2 => ?_)
    refine hv_callVi hc (c_X11_allBy v2 mem) yv_X11_allBy tw_1513 sh_o_65 rfl rfl rfl rfl (Nat.le_of_ble_eq_true rfl) (Nat.le_of_ble_eq_true rfl) (Nat.zero_le _) (Nat.zero_le _) dX11_all_16 (fun r3 m4 => ?_)
    refine hv_goto (tgt := 24) hc dX11_all_19 (by decide) ?_
    exact hv_iret hc dX11_all_24
