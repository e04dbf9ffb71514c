/-! the JDK's members over the eight words: length, charAt -/
def f_J0_coder_7d493 (_w : Nat) (mem : hMem) : hRs := hv_eq 1 0 none (hv_ret 0 mem)
set_option maxRecDepth 100000 in
theorem c_J0_coder_7d493 (w : Nat) (hw : w < 8) (mem : hMem) : hv_Met 0 0 0 0 yJ0_coder_7d493 cJ0_coder_7d493 1 (some .byte) (fun _ ak _ => [.ref (ak w)]) mem (f_J0_coder_7d493 w mem) := by
  refine hv_start (by decide +kernel) (fun _ _ _ => Nat.le_of_ble_eq_true rfl) ?_
  intro X hc
  have hc : hv_C X cJ0_coder_7d493 1 RJ0 (some .byte) 0 0 0 := hc
  show hv_R X 1 0 0 (hv_QX X 0 0 0) (f_J0_coder_7d493 w mem) mem [] [(0, .ref (hv_ak X w))] [] 0
  unfold f_J0_coder_7d493
  refine hv_sCS hc tw_428 dJ0_coder_7d493_0 ?_
  refine hv_if_eq (tgt := 13) hc dJ0_coder_7d493_3 (by decide) hv_none ?_
  refine hv_aload_n hc dJ0_coder_7d493_6 rfl (hv_m 0 rfl) ?_
  refine hv_sgetC hc hw tw_1626 dJ0_coder_7d493_7 ?_
  refine hv_goto (tgt := 14) hc dJ0_coder_7d493_10 (by decide) ?_
  exact hv_nret hc rfl dJ0_coder_7d493_14
def f_J0_isLatin1_aae02 (_w : Nat) (mem : hMem) : hRs := hv_eq 1 0 none (hv_eq 0 0 (hv_zr 1 mem) none)
set_option maxRecDepth 100000 in
theorem c_J0_isLatin1_aae02 (w : Nat) (hw : w < 8) (mem : hMem) : hv_Met 0 0 0 0 yJ0_isLatin1_aae02 cJ0_isLatin1_aae02 1 (some .boolean) (fun _ ak _ => [.ref (ak w)]) mem (f_J0_isLatin1_aae02 w mem) := by
  refine hv_start (by decide +kernel) (fun _ _ _ => Nat.le_of_ble_eq_true rfl) ?_
  intro X hc
  have hc : hv_C X cJ0_isLatin1_aae02 1 RJ0 (some .boolean) 0 0 0 := hc
  show hv_R X 1 0 0 (hv_QX X 0 0 0) (f_J0_isLatin1_aae02 w mem) mem [] [(0, .ref (hv_ak X w))] [] 0
  unfold f_J0_isLatin1_aae02
  refine hv_sCS hc tw_428 dJ0_isLatin1_aae02_0 ?_
  refine hv_if_eq (tgt := 17) hc dJ0_isLatin1_aae02_3 (by decide) hv_none ?_
  refine hv_aload_n hc dJ0_isLatin1_aae02_6 rfl (hv_m 0 rfl) ?_
  refine hv_sgetC hc hw tw_1626 dJ0_isLatin1_aae02_7 ?_
  refine hv_if_ne (tgt := 17) hc dJ0_isLatin1_aae02_10 (by decide) hv_none ?_
  refine hv_iconst hc dJ0_isLatin1_aae02_13 ?_
  refine hv_goto (tgt := 18) hc dJ0_isLatin1_aae02_14 (by decide) ?_
  exact hv_zret hc dJ0_isLatin1_aae02_18
def f_J0_length_8abf5 (w : Nat) (mem : hMem) : hRs := hv_b (f_J0_coder_7d493 w mem) (fun r m => hv_ret (hv_shr (hv_sl w) r) m)
set_option maxRecDepth 100000 in
theorem c_J0_length_8abf5 (w : Nat) (hw : w < 8) (mem : hMem) : hv_Met 3 0 0 0 yJ0_length_8abf5 cJ0_length_8abf5 1 (some .int) (fun _ ak _ => [.ref (ak w)]) mem (f_J0_length_8abf5 w mem) := by
  refine hv_start (by decide +kernel) (fun _ _ _ => Nat.le_of_ble_eq_true rfl) ?_
  intro X hc
  have hc : hv_C X cJ0_length_8abf5 1 RJ0 (some .int) 3 0 0 := hc
  show hv_R X 1 0 0 (hv_QX X 0 0 0) (f_J0_length_8abf5 w mem) mem [] [(0, .ref (hv_ak X w))] [] 0
  unfold f_J0_length_8abf5
  refine hv_aload_n hc dJ0_length_8abf5_0 rfl (hv_m 0 rfl) ?_
  refine hv_sgetV hc hw tw_1625 dJ0_length_8abf5_1 ?_
  refine hv_slenA hc hw dJ0_length_8abf5_4 ?_
  refine hv_aload_n hc dJ0_length_8abf5_5 rfl (hv_m 0 rfl) ?_
  refine hv_callStr hc (c_J0_coder_7d493 w hw mem) yv_J0_coder_7d493 tw_424 hw rfl rfl rfl rfl (Nat.le_of_ble_eq_true rfl) (Nat.le_of_ble_eq_true rfl) (Nat.zero_le _) (Nat.zero_le _) dJ0_length_8abf5_6 (fun r m => ?_)
  refine hv_ishr hc dJ0_length_8abf5_9 ?_
  exact hv_iret hc dJ0_length_8abf5_10
def f_J3_checkIndex_8e157 (i n : Int) (mem : hMem) : hRs := hv_lt i 0 none (hv_lt i n (hv_ret i mem) none)
set_option maxRecDepth 100000 in
theorem c_J3_checkIndex_n (i n : Int) (mem : hMem) : hv_Met 0 0 0 0 yJ3_checkIndex_8e157 cJ3_checkIndex_8e157 3 (some .int) (fun _ _ _ => [.int (hv_I i), .int (hv_I n), .null]) mem (f_J3_checkIndex_8e157 i n mem) := by
  refine hv_start (by decide +kernel) (fun _ _ _ => Nat.le_of_ble_eq_true rfl) ?_
  intro X hc
  have hc : hv_C X cJ3_checkIndex_8e157 3 RJ3 (some .int) 0 0 0 := hc
  show hv_R X 3 0 0 (hv_QX X 0 0 0) (f_J3_checkIndex_8e157 i n mem) mem [] [(0, .int (hv_I i)), (1, .int (hv_I n)), (2, .null)] [] 0
  unfold f_J3_checkIndex_8e157
  refine hv_iload_n hc dJ3_checkIndex_8e157_0 rfl (hv_m 0 rfl) ?_
  refine hv_if_lt (tgt := 9) hc dJ3_checkIndex_8e157_1 (by decide) hv_none ?_
  refine hv_iload_n hc dJ3_checkIndex_8e157_4 rfl (hv_m 0 rfl) ?_
  refine hv_iload_n hc dJ3_checkIndex_8e157_5 rfl (hv_m 1 rfl) ?_
  refine hv_icmp_lt (tgt := 16) hc dJ3_checkIndex_8e157_6 (by decide) ?_ hv_none
  refine hv_iload_n hc dJ3_checkIndex_8e157_16 rfl (hv_m 0 rfl) ?_
  exact hv_iret hc dJ3_checkIndex_8e157_17
set_option maxRecDepth 100000 in
theorem c_J3_checkIndex_r (q : Nat) (i n : Int) (mem : hMem) : hv_Met 0 0 0 0 yJ3_checkIndex_8e157 cJ3_checkIndex_8e157 3 (some .int) (fun _ _ _ => [.int (hv_I i), .int (hv_I n), .ref q]) mem (f_J3_checkIndex_8e157 i n mem) := by
  refine hv_start (by decide +kernel) (fun _ _ _ => Nat.le_of_ble_eq_true rfl) ?_
  intro X hc
  have hc : hv_C X cJ3_checkIndex_8e157 3 RJ3 (some .int) 0 0 0 := hc
  show hv_R X 3 0 0 (hv_QX X 0 0 0) (f_J3_checkIndex_8e157 i n mem) mem [] [(0, .int (hv_I i)), (1, .int (hv_I n)), (2, .ref q)] [] 0
  unfold f_J3_checkIndex_8e157
  refine hv_iload_n hc dJ3_checkIndex_8e157_0 rfl (hv_m 0 rfl) ?_
  refine hv_if_lt (tgt := 9) hc dJ3_checkIndex_8e157_1 (by decide) hv_none ?_
  refine hv_iload_n hc dJ3_checkIndex_8e157_4 rfl (hv_m 0 rfl) ?_
  refine hv_iload_n hc dJ3_checkIndex_8e157_5 rfl (hv_m 1 rfl) ?_
  refine hv_icmp_lt (tgt := 16) hc dJ3_checkIndex_8e157_6 (by decide) ?_ hv_none
  refine hv_iload_n hc dJ3_checkIndex_8e157_16 rfl (hv_m 0 rfl) ?_
  exact hv_iret hc dJ3_checkIndex_8e157_17
def f_J0_checkIndex_df160 (i n : Int) (mem : hMem) : hRs := hv_b (f_J3_checkIndex_8e157 i n mem) (fun _ m => hv_ret 0 m)
set_option maxRecDepth 100000 in
theorem c_J0_checkIndex_df160 (i n : Int) (mem : hMem) : hv_Met 1 0 0 1 yJ0_checkIndex_df160 cJ0_checkIndex_df160 2 none (fun _ _ _ => [.int (hv_I i), .int (hv_I n)]) mem (f_J0_checkIndex_df160 i n mem) := by
  refine hv_start (by decide +kernel) (fun _ _ _ => Nat.le_of_ble_eq_true rfl) ?_
  intro X hc
  have hc : hv_C X cJ0_checkIndex_df160 2 RJ0 none 1 0 0 := hc
  show hv_R X 2 0 0 (hv_QX X 1 0 0) (f_J0_checkIndex_df160 i n mem) mem [] [(0, .int (hv_I i)), (1, .int (hv_I n))] [] 0
  unfold f_J0_checkIndex_df160
  refine hv_iload_n hc dJ0_checkIndex_df160_0 rfl (hv_m 0 rfl) ?_
  refine hv_iload_n hc dJ0_checkIndex_df160_1 rfl (hv_m 1 rfl) ?_
  refine hv_sFM hc tw_444 dJ0_checkIndex_df160_2 ?_ (fun q => ?_)
  · refine hv_callSi hc (c_J3_checkIndex_n i n mem) ys_J3_checkIndex_8e157 tw_446 rfl rfl rfl (Nat.le_of_ble_eq_true rfl) (Nat.le_of_ble_eq_true rfl) (Nat.zero_le _) (Nat.zero_le _) dJ0_checkIndex_df160_5 (fun r m => ?_)
    refine hv_pop hc dJ0_checkIndex_df160_8 rfl ?_
    exact hv_vret hc dJ0_checkIndex_df160_9
  · refine hv_callSi hc (c_J3_checkIndex_r q i n mem) ys_J3_checkIndex_8e157 tw_446 rfl rfl rfl (Nat.le_of_ble_eq_true rfl) (Nat.le_of_ble_eq_true rfl) (Nat.zero_le _) (Nat.zero_le _) dJ0_checkIndex_df160_5 (fun r m => ?_)
    refine hv_pop hc dJ0_checkIndex_df160_8 rfl ?_
    exact hv_vret hc dJ0_checkIndex_df160_9
def f_J1_charAt_3b067 (w : Nat) (i : Int) (mem : hMem) : hRs := hv_b (f_J0_checkIndex_df160 i (hv_sl w) mem) (fun _ m => hv_sb w i (fun v => hv_ret (hv_and v 255) m))
set_option maxRecDepth 100000 in
theorem c_J1_charAt_3b067 (w : Nat) (hw : w < 8) (i : Int) (mem : hMem) : hv_Met 2 0 0 0 yJ1_charAt_3b067 cJ1_charAt_3b067 2 (some .char) (fun _ _ av => [.ref (av w), .int (hv_I i)]) mem (f_J1_charAt_3b067 w i mem) := by
  refine hv_start (by decide +kernel) (fun _ _ _ => Nat.le_of_ble_eq_true rfl) ?_
  intro X hc
  have hc : hv_C X cJ1_charAt_3b067 2 RJ1 (some .char) 2 0 0 := hc
  show hv_R X 2 0 0 (hv_QX X 0 0 0) (f_J1_charAt_3b067 w i mem) mem [] [(0, .ref (hv_av X w)), (1, .int (hv_I i))] [] 0
  unfold f_J1_charAt_3b067
  refine hv_iload_n hc dJ1_charAt_3b067_0 rfl (hv_m 1 rfl) ?_
  refine hv_aload_n hc dJ1_charAt_3b067_1 rfl (hv_m 0 rfl) ?_
  refine hv_slenA hc hw dJ1_charAt_3b067_2 ?_
  refine hv_callSv hc (c_J0_checkIndex_df160 i (hv_sl w) mem) ys_J0_checkIndex_df160 tw_441 rfl rfl rfl (Nat.le_of_ble_eq_true rfl) (Nat.le_of_ble_eq_true rfl) (Nat.zero_le _) (Nat.zero_le _) dJ1_charAt_3b067_3 (fun r m => ?_)
  refine hv_aload_n hc dJ1_charAt_3b067_6 rfl (hv_m 0 rfl) ?_
  refine hv_iload_n hc dJ1_charAt_3b067_7 rfl (hv_m 1 rfl) ?_
  refine hv_sbald hc hw dJ1_charAt_3b067_8 (fun v hv => ?_)
  obtain ⟨j, hj, ev⟩ := hv
  obtain ⟨e1, e2, e3⟩ := (hv_byt_ok w hw).2 j hj
  have e : hv_I (hv_and v 255) = (hv_byt.getD w []).getD j 0 := by
    rw [hv_I, hv_and, Int32.ofInt_toInt, ev]
    exact e2
  refine hv_sipush hc dJ1_charAt_3b067_9 (by decide) ?_
  refine hv_iand hc dJ1_charAt_3b067_12 ?_
  refine hv_i2c hc (by rw [e]; exact e3) dJ1_charAt_3b067_13 ?_
  exact hv_nret hc (by rw [e]; exact e1) dJ1_charAt_3b067_14
def f_J0_charAt_5068e (w : Nat) (i : Int) (mem : hMem) : hRs := hv_b (f_J0_isLatin1_aae02 w mem) (fun r m => hv_eq r 0 none (hv_b (f_J1_charAt_3b067 w i m) (fun r2 m2 => hv_cr r2 m2)))
set_option maxRecDepth 100000 in
theorem c_J0_charAt_5068e (w : Nat) (hw : w < 8) (i : Int) (mem : hMem) : hv_Met 3 0 0 0 yJ0_charAt_5068e cJ0_charAt_5068e 2 (some .char) (fun _ ak _ => [.ref (ak w), .int (hv_I i)]) mem (f_J0_charAt_5068e w i mem) := by
  refine hv_start (by decide +kernel) (fun _ _ _ => Nat.le_of_ble_eq_true rfl) ?_
  intro X hc
  have hc : hv_C X cJ0_charAt_5068e 2 RJ0 (some .char) 3 0 0 := hc
  show hv_R X 2 0 0 (hv_QX X 0 0 0) (f_J0_charAt_5068e w i mem) mem [] [(0, .ref (hv_ak X w)), (1, .int (hv_I i))] [] 0
  unfold f_J0_charAt_5068e
  refine hv_aload_n hc dJ0_charAt_5068e_0 rfl (hv_m 0 rfl) ?_
  refine hv_callStr hc (c_J0_isLatin1_aae02 w hw mem) yv_J0_isLatin1_aae02 tw_434 hw rfl rfl rfl rfl (Nat.le_of_ble_eq_true rfl) (Nat.le_of_ble_eq_true rfl) (Nat.zero_le _) (Nat.zero_le _) dJ0_charAt_5068e_1 (fun r m => ?_)
  refine hv_if_eq (tgt := 16) hc dJ0_charAt_5068e_4 (by decide) hv_none ?_
  refine hv_aload_n hc dJ0_charAt_5068e_7 rfl (hv_m 0 rfl) ?_
  refine hv_sgetV hc hw tw_1625 dJ0_charAt_5068e_8 ?_
  refine hv_iload_n hc dJ0_charAt_5068e_11 rfl (hv_m 1 rfl) ?_
  refine hv_callSi hc (c_J1_charAt_3b067 w hw i m) ys_J1_charAt_3b067 tw_438 rfl rfl rfl (Nat.le_of_ble_eq_true rfl) (Nat.le_of_ble_eq_true rfl) (Nat.zero_le _) (Nat.zero_le _) dJ0_charAt_5068e_12 (fun r2 m2 => ?_)
  exact hv_cret hc dJ0_charAt_5068e_15
