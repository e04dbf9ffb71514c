/-! the class's reader: all lines -/
theorem c_readOther {bs q : List Nat} {vs : List hVr} {m : hMem} (ho : Os vs) (h20 : vs.length ≤ 20) (h : Rd bs q f0 m) (hR : RdC vs m) (hs : SzR m) : ∃ m', f_X4_readOther m = some (0, m') ∧ Re bs vs m m' (e_ver bs vs q) := by
  have bl : ∀ k : Int, 0 ≤ k ∧ k ≤ 3 → k ≠ 0 → ∃ m', f_X4_blame k (pl bs q) m = some (0, m') ∧ Re bs vs m m' (.error (k, pl bs q)) := fun k hk hk0 => by
    obtain ⟨m1, a1, a2, a3, -⟩ := c_blame (k := k) (p := pl bs q) h hk
    rw [fb_f rfl] at a2
    exact ⟨m1, a1, hs.eq (a3.c5 10 (by omega) (by omega)), a3.fp, fun j hj => a3.2 j (by omega) (by omega) (by omega), hk0, q, a2⟩
  have spent : ∀ w : Int, w ≠ -1 → hv_R32 w → 20 ≤ vs.length → ∃ m', hv_eq w (-1) (hv_b (f_X8_start m) (fun r17 m18 => hv_b (f_X4_blame 1 r17 m18) (fun r19 m20 => hv_ret 0 m20))) (hv_lt (m 3 10) 20 (hv_b (f_X8_move m) (fun r3 m4 => hv_tsw w 1 [hv_b (f_X4_readPut m4) (fun r5 m6 => hv_ret 0 m6), hv_b (f_X4_readJoin m4) (fun r7 m8 => hv_ret 0 m8), hv_b (f_X4_readTake m4) (fun r9 m10 => hv_ret 0 m10)] (hv_b (f_X4_readNew m4) (fun r11 m12 => hv_ret 0 m12)))) (hv_b (f_X8_start m) (fun r13 m14 => hv_b (f_X4_blame 3 r13 m14) (fun r15 m16 => hv_ret 0 m16)))) = some (0, m') ∧ Re bs vs m m' (.error (3, pl bs q)) := fun w hw hwr hv => by
    obtain ⟨m1, a1, a2⟩ := bl 3 (by omega) (by omega)
    refine ⟨m1, ?_, a2⟩
    rw [hp_eq_f hwr (by decide) (by omega), hR.1, hp_lt_f (by omega) (by decide) (by omega), t_start h.1, hp_b]
    have A : f_X4_blame 3 ((bs.length - q.length : Nat) : Int) m = some (0, m1) := a1
    rw [A, hp_b]
    rfl
  have step : ∀ (w : Int), w ≠ -1 → hv_R32 w → vs.length < 20 → ∃ m1, Rd bs (nx q) f0 m1 ∧ RdC vs m1 ∧ SzR m1 ∧ Fk m m1 ∧ hv_eq w (-1) (hv_b (f_X8_start m) (fun r17 m18 => hv_b (f_X4_blame 1 r17 m18) (fun r19 m20 => hv_ret 0 m20))) (hv_lt (m 3 10) 20 (hv_b (f_X8_move m) (fun r3 m4 => hv_tsw w 1 [hv_b (f_X4_readPut m4) (fun r5 m6 => hv_ret 0 m6), hv_b (f_X4_readJoin m4) (fun r7 m8 => hv_ret 0 m8), hv_b (f_X4_readTake m4) (fun r9 m10 => hv_ret 0 m10)] (hv_b (f_X4_readNew m4) (fun r11 m12 => hv_ret 0 m12)))) (hv_b (f_X8_start m) (fun r13 m14 => hv_b (f_X4_blame 3 r13 m14) (fun r15 m16 => hv_ret 0 m16)))) = hv_tsw w 1 [hv_b (f_X4_readPut m1) (fun r5 m6 => hv_ret 0 m6), hv_b (f_X4_readJoin m1) (fun r7 m8 => hv_ret 0 m8), hv_b (f_X4_readTake m1) (fun r9 m10 => hv_ret 0 m10)] (hv_b (f_X4_readNew m1) (fun r11 m12 => hv_ret 0 m12)) := fun w hw hwr hv => by
    obtain ⟨m1, a1, a2, a3, -⟩ := c_rmove h
    refine ⟨m1, a2, hR.fk a3, hs.eq (a3.c5 10 (by omega) (by omega)), a3, ?_⟩
    rw [hp_eq_f hwr (by decide) (by omega), hR.1, hp_lt_t (by omega) (by decide) (by omega), a1, hp_b]
  unfold f_X4_readOther
  have start : ∀ r : Int, f_X4_howOfWord m = some (r, m) → hv_b (f_X4_howOfWord m) (fun r1 m2 => hv_eq r1 ((-1)) (hv_b (f_X8_start m2) (fun r17 m18 => hv_b (f_X4_blame 1 r17 m18) (fun r19 m20 => hv_ret 0 m20))) (hv_lt (m2 3 10) 20 (hv_b (f_X8_move m2) (fun r3 m4 => hv_tsw r1 1 [hv_b (f_X4_readPut m4) (fun r5 m6 => hv_ret 0 m6), hv_b (f_X4_readJoin m4) (fun r7 m8 => hv_ret 0 m8), hv_b (f_X4_readTake m4) (fun r9 m10 => hv_ret 0 m10)] (hv_b (f_X4_readNew m4) (fun r11 m12 => hv_ret 0 m12)))) (hv_b (f_X8_start m2) (fun r13 m14 => hv_b (f_X4_blame 3 r13 m14) (fun r15 m16 => hv_ret 0 m16))))) = hv_eq r ((-1)) (hv_b (f_X8_start m) (fun r17 m18 => hv_b (f_X4_blame 1 r17 m18) (fun r19 m20 => hv_ret 0 m20))) (hv_lt (m 3 10) 20 (hv_b (f_X8_move m) (fun r3 m4 => hv_tsw r 1 [hv_b (f_X4_readPut m4) (fun r5 m6 => hv_ret 0 m6), hv_b (f_X4_readJoin m4) (fun r7 m8 => hv_ret 0 m8), hv_b (f_X4_readTake m4) (fun r9 m10 => hv_ret 0 m10)] (hv_b (f_X4_readNew m4) (fun r11 m12 => hv_ret 0 m12)))) (hv_b (f_X8_start m) (fun r13 m14 => hv_b (f_X4_blame 3 r13 m14) (fun r15 m16 => hv_ret 0 m16)))) := fun r hr => by rw [hr, hp_b]
  unfold e_ver
  cases c3 : isw 3 q with
  | true =>
    have H : f_X4_howOfWord m = some (0, m) := by
      unfold f_X4_howOfWord
      rw [c_isWord h.1 (by omega), hp_b, c3, if_pos rfl, hp_eq_f (by decide) (by decide) (by decide)]
      rfl
    rw [start 0 H, if_pos rfl]
    by_cases hv : 20 ≤ vs.length
    · rw [if_pos hv]; exact spent 0 (by decide) (by decide) hv
    · rw [if_neg hv]
      obtain ⟨m1, s1, s2, s3, s4, s5⟩ := step 0 (by decide) (by decide) (by omega)
      obtain ⟨m', g1, g2⟩ := c_readNew (by omega) s1 s2 s3
      refine ⟨m', ?_, Re.mk s4.fp (fun j hj => s4.2 j (by omega) (by omega) (by omega)) g2⟩
      rw [s5, hp_tsw_d (by decide) (Or.inl (by decide)), g1, hp_b]
      rfl
  | false =>
    rw [if_neg (by simp)]
    cases c4 : isw 4 q with
    | true =>
      have H : f_X4_howOfWord m = some (1, m) := by
        unfold f_X4_howOfWord
        rw [c_isWord h.1 (by omega), hp_b, c3, if_neg (by simp), hp_eq_t (by decide) (by decide) (by decide), c_isWord h.1 (by omega), hp_b, c4, if_pos rfl, hp_eq_f (by decide) (by decide) (by decide)]
        rfl
      rw [start 1 H, if_pos rfl]
      by_cases hv : 20 ≤ vs.length
      · rw [if_pos hv]; exact spent 1 (by decide) (by decide) hv
      · rw [if_neg hv]
        obtain ⟨m1, s1, s2, s3, s4, s5⟩ := step 1 (by decide) (by decide) (by omega)
        obtain ⟨m', g1, g2⟩ := c_readPut ho (by omega) s1 s2 s3
        refine ⟨m', ?_, Re.mk s4.fp (fun j hj => s4.2 j (by omega) (by omega) (by omega)) g2⟩
        rw [s5, hp_tsw (i := 0) (by decide) (by decide) (by simp), List.getD_cons_zero, g1, hp_b]
        rfl
    | false =>
      rw [if_neg (by simp)]
      cases c5 : isw 5 q with
      | true =>
        have H : f_X4_howOfWord m = some (2, m) := by
          unfold f_X4_howOfWord
          rw [c_isWord h.1 (by omega), hp_b, c3, if_neg (by simp), hp_eq_t (by decide) (by decide) (by decide), c_isWord h.1 (by omega), hp_b, c4, if_neg (by simp), hp_eq_t (by decide) (by decide) (by decide), c_isWord h.1 (by omega), hp_b, c5, if_pos rfl, hp_eq_f (by decide) (by decide) (by decide)]
          rfl
        rw [start 2 H, if_pos rfl]
        by_cases hv : 20 ≤ vs.length
        · rw [if_pos hv]; exact spent 2 (by decide) (by decide) hv
        · rw [if_neg hv]
          obtain ⟨m1, s1, s2, s3, s4, s5⟩ := step 2 (by decide) (by decide) (by omega)
          obtain ⟨m', g1, g2⟩ := c_readJoin ho (by omega) s1 s2 s3
          refine ⟨m', ?_, Re.mk s4.fp (fun j hj => s4.2 j (by omega) (by omega) (by omega)) g2⟩
          rw [s5, hp_tsw (i := 1) (by decide) (by decide) (by simp), List.getD_cons_succ, List.getD_cons_zero, g1, hp_b]
          rfl
      | false =>
        rw [if_neg (by simp)]
        cases c6 : isw 6 q with
        | true =>
          have H : f_X4_howOfWord m = some (3, m) := by
            unfold f_X4_howOfWord
            rw [c_isWord h.1 (by omega), hp_b, c3, if_neg (by simp), hp_eq_t (by decide) (by decide) (by decide), c_isWord h.1 (by omega), hp_b, c4, if_neg (by simp), hp_eq_t (by decide) (by decide) (by decide), c_isWord h.1 (by omega), hp_b, c5, if_neg (by simp), hp_eq_t (by decide) (by decide) (by decide), c_isWord h.1 (by omega), hp_b, c6, if_pos rfl, hp_eq_f (by decide) (by decide) (by decide)]
            rfl
          rw [start 3 H, if_pos rfl]
          by_cases hv : 20 ≤ vs.length
          · rw [if_pos hv]; exact spent 3 (by decide) (by decide) hv
          · rw [if_neg hv]
            obtain ⟨m1, s1, s2, s3, s4, s5⟩ := step 3 (by decide) (by decide) (by omega)
            obtain ⟨m', g1, g2⟩ := c_readTake (by omega) s1 s2 s3
            refine ⟨m', ?_, Re.mk s4.fp (fun j hj => s4.2 j (by omega) (by omega) (by omega)) g2⟩
            rw [s5, hp_tsw (i := 2) (by decide) (by decide) (by simp), List.getD_cons_succ, List.getD_cons_succ, List.getD_cons_zero, g1, hp_b]
            rfl
        | false =>
          rw [if_neg (by simp)]
          have H : f_X4_howOfWord m = some (-1, m) := by
            unfold f_X4_howOfWord
            rw [c_isWord h.1 (by omega), hp_b, c3, if_neg (by simp), hp_eq_t (by decide) (by decide) (by decide), c_isWord h.1 (by omega), hp_b, c4, if_neg (by simp), hp_eq_t (by decide) (by decide) (by decide), c_isWord h.1 (by omega), hp_b, c5, if_neg (by simp), hp_eq_t (by decide) (by decide) (by decide), c_isWord h.1 (by omega), hp_b, c6, if_neg (by simp), hp_eq_t (by decide) (by decide) (by decide)]
            rfl
          obtain ⟨m1, a1, a2⟩ := bl 1 (by omega) (by omega)
          refine ⟨m1, ?_, a2⟩
          rw [start (-1) H, hp_eq_t (by decide) (by decide) rfl, t_start h.1, hp_b]
          have A : f_X4_blame 1 ((bs.length - q.length : Nat) : Int) m = some (0, m1) := a1
          rw [A, hp_b]
          rfl
/-- what reading leaves -/
def Rl (m m' : hMem) (r : Int) (e : Except (Int × Int) (Nat × Nat × Nat × List hVr)) : Prop := Fp m m' ∧ SzR m' ∧
  (match e with
   | .ok (li, la, ha, vs) => r = 1 ∧ m' 3 9 = (li : Int) ∧ m' 3 7 = (la : Int) ∧ m' 3 8 = (ha : Int) ∧ RdC vs m' ∧ m' 3 11 = 0 ∧ m' 3 12 = -1
   | .error f => r = 0 ∧ m' 3 11 = f.1 ∧ m' 3 12 = f.2 ∧ f.1 ≠ 0)
theorem c_readL {bs : List Nat} : ∀ (n k i li la ha : Nat) (vs : List hVr) (q : List Nat) (m : hMem), q.length < n → q.length < k → i + q.length ≤ 600 → Os vs → vs.length ≤ 20 → Rd bs q f0 m → RdC vs m → SzR m → m 3 9 = (li : Int) → li ≤ 600 → li ≤ i → m 3 7 = (la : Int) → m 3 8 = (ha : Int) →
    ∃ r m', L_X4_read_39 n (i : Int) m = some (r, m') ∧ Rl m m' r (e_run bs k li la ha vs q)
  | 0, _, _, _, _, _, _, _, _, hn, _, _, _, _, _, _, _, _, _, _, _, _ => by omega
  | _, 0, _, _, _, _, _, _, _, _, hn, _, _, _, _, _, _, _, _, _, _, _ => by omega
  | n + 1, k + 1, i, li, la, ha, vs, q, m, hn, hk, hi, ho, h20, h, hR, hs, h9, hli, hlii, h7, h8 => by
    have kl := kd_le q
    have J97 : ∀ mm : hMem, hv_R32 (mm 3 11) → J_X4_read_97 mm = some (if mm 3 11 = 0 then 1 else 0, mm) := fun mm hr => by
      unfold J_X4_read_97
      by_cases c : mm 3 11 = 0
      · rw [hp_eq_t hr (by decide) c, if_pos c, hp_zr1]
      · rw [hp_eq_f hr (by decide) (by omega), if_neg c, hp_zr0]
    have e11 : m 3 11 = 0 := h.2.1
    have e12 : m 3 12 = -1 := h.2.2.1
    have s600 : hv_lt (i : Int) 600 = hv_lt (i : Int) 600 := rfl
    unfold e_run
    by_cases c0 : kd q = 0
    · rw [if_pos c0]
      refine ⟨1, m, ?_, fun _ _ => rfl, hs, rfl, h9, h7, h8, hR, e11, e12⟩
      show B_X4_read_39 (L_X4_read_39 n) (i : Int) m = _
      unfold B_X4_read_39
      have J := J97 m (by rw [e11]; decide)
      rw [if_pos e11] at J
      by_cases ci : i < 600
      · rw [hp_lt_t (by omega) (by decide) (by omega), t_kind h.1, hp_b, hp_eq_t (by omega) (by decide) (by omega), J]
      · rw [hp_lt_f (by omega) (by decide) (by omega), J]
    · rw [if_neg c0]
      have hq0 : 1 ≤ q.length := ne_pos (fun e => c0 (by rw [e]; rfl))
      have start : L_X4_read_39 (n + 1) (i : Int) m = hv_eq (li : Int) 0 (hv_b (f_X4_readPlan m) (fun r5 m6 => J_X4_read_81 (L_X4_read_39 n) (i : Int) m6)) (hv_b (f_X4_readOther m) (fun r3 m4 => J_X4_read_81 (L_X4_read_39 n) (i : Int) m4)) := by
        show B_X4_read_39 (L_X4_read_39 n) (i : Int) m = _
        unfold B_X4_read_39
        rw [hp_lt_t (by omega) (by decide) (by omega), t_kind h.1, hp_b, hp_eq_f (by omega) (by decide) (by omega), e11, hp_eq_t (by decide) (by decide) (by decide), h9]
      -- behind a faulty line
      have fin : ∀ (m1 : hMem) (f : Int × Int) (q' : List Nat), Rd bs q' f m1 → f.1 ≠ 0 → SzR m1 → Fp m m1 → hv_R32 (m1 3 9) → ∃ r m', J_X4_read_81 (L_X4_read_39 n) (i : Int) m1 = some (r, m') ∧ Rl m m' r (.error f) := by
        intro m1 f q' r1 r2 r3 r4 r5
        have kl' := kd_le q'
        obtain ⟨m2, em2⟩ : ∃ m2 : hMem, m2 = hv_up m1 3 9 (m1 3 9 + 1) := ⟨_, rfl⟩
        have R2 := r1.put (j := 9) (by omega) (m1 3 9 + 1)
        rw [← em2] at R2
        have J := J97 m2 (by rw [R2.2.1]; have := R2.2.2.2; unfold hv_R32; omega)
        rw [if_neg (by rw [R2.2.1]; exact r2)] at J
        have F2 : Fp m m2 := by rw [em2]; exact r4.up (by omega)
        refine ⟨0, m2, ?_, F2, r3.eq (by rw [em2, hp_up_kk _ _ _ (by omega)]), rfl, R2.2.1, R2.2.2.1, r2⟩
        unfold J_X4_read_81
        rw [hp_put, ← em2, hp_set]
        obtain ⟨n', rfl⟩ : ∃ n', n = n' + 1 := ⟨n - 1, by omega⟩
        show B_X4_read_39 (L_X4_read_39 n') ((i : Int) + 1) m2 = _
        unfold B_X4_read_39
        by_cases ci : i + 1 < 600
        · rw [hp_lt_t (by omega) (by decide) (by omega), t_kind R2.1, hp_b]
          by_cases ck : kd q' = 0
          · rw [hp_eq_t (by omega) (by decide) (by omega), J]
          · have hf := R2.2.2.2
            rw [hp_eq_f (by omega) (by decide) (by omega), R2.2.1, hp_eq_f (by omega) (by decide) (by omega), J]
        · rw [hp_lt_f (by omega) (by decide) (by omega), J]
      by_cases c1 : li = 0
      · rw [if_pos c1]
        obtain ⟨m1, a1, a2, a3, a4, a5⟩ := c_readPlan h
        have hs1 := hs.eq (a3 10 (by omega) (by omega))
        rw [start, hp_eq_t (by omega) (by decide) (by omega), a1, hp_b]
        cases ce : e_plan bs q with
        | error f =>
          rw [ce] at a5
          obtain ⟨b1, q', b2⟩ := a5
          exact fin m1 f q' b2 b1 hs1 a2 (by rw [a4 9 (Or.inl rfl), h9]; omega)
        | ok r =>
          rw [ce] at a5
          obtain ⟨b1, b2, b3⟩ := a5
          obtain ⟨⟨l1, h1⟩, q'⟩ := r
          obtain ⟨z1, z2, z3, z4⟩ := plan_spec ce
          obtain ⟨m2, em2⟩ : ∃ m2 : hMem, m2 = hv_up m1 3 9 (m1 3 9 + 1) := ⟨_, rfl⟩
          have R2 := b1.put (j := 9) (by omega) (m1 3 9 + 1)
          rw [← em2] at R2
          have F2 : Fp m m2 := by rw [em2]; exact a2.up (by omega)
          have hR2 : RdC vs m2 := hR.eq (by rw [em2, hp_up_j _ _ _ (by omega), a4 10 (Or.inr rfl)]) (fun k k1 k2 => by rw [em2, hp_up_kk _ _ _ (by omega), a3 k k1 k2])
          obtain ⟨r, m', g1, g2, g3, g4⟩ := c_readL n k (i + 1) 1 l1 h1 vs q' m2 (by omega) (by omega) (by omega) ho h20 R2 hR2 (hs1.eq (by rw [em2, hp_up_kk _ _ _ (by omega)])) (by rw [em2, hp_up_same, a4 9 (Or.inl rfl), h9]; omega) (by omega) (by omega) (by rw [em2, hp_up_j _ _ _ (by omega)]; exact b2) (by rw [em2, hp_up_j _ _ _ (by omega)]; exact b3)
          refine ⟨r, m', ?_, F2.trans g2, g3, g4⟩
          unfold J_X4_read_81
          rw [hp_put, ← em2, hp_set]
          exact g1
      · rw [if_neg c1]
        obtain ⟨m1, a1, a2, a3, a4, a5⟩ := c_readOther ho h20 h hR hs
        rw [start, hp_eq_f (by omega) (by decide) (by omega), a1, hp_b]
        cases ce : e_ver bs vs q with
        | error f =>
          rw [ce] at a5
          obtain ⟨b1, q', b2⟩ := a5
          exact fin m1 f q' b2 b1 a2 a3 (by rw [a4 9 (by omega), h9]; omega)
        | ok r =>
          rw [ce] at a5
          obtain ⟨b1, b2⟩ := a5
          obtain ⟨v, q'⟩ := r
          obtain ⟨z1, z2, z3⟩ := ver_spec ce
          obtain ⟨m2, em2⟩ : ∃ m2 : hMem, m2 = hv_up m1 3 9 (m1 3 9 + 1) := ⟨_, rfl⟩
          have R2 := b1.put (j := 9) (by omega) (m1 3 9 + 1)
          rw [← em2] at R2
          have F2 : Fp m m2 := by rw [em2]; exact a3.up (by omega)
          have hR2 : RdC (vs ++ [v]) m2 := b2.eq (by rw [em2, hp_up_j _ _ _ (by omega)]) (fun k k1 k2 => by rw [em2, hp_up_kk _ _ _ (by omega)])
          have z2 : q'.length < q.length := z2
          obtain ⟨r, m', g1, g2, g3, g4⟩ := c_readL n k (i + 1) (li + 1) la ha (vs ++ [v]) q' m2 (by omega) (by omega) (by omega) (os_snoc.mpr ⟨ho, by omega, z1⟩) (by rw [List.length_append, List.length_singleton]; omega) R2 hR2 (a2.eq (by rw [em2, hp_up_kk _ _ _ (by omega)])) (by rw [em2, hp_up_same, a4 9 (by omega), h9]; omega) (by omega) (by omega) (by rw [em2, hp_up_j _ _ _ (by omega), a4 7 (by omega)]; exact h7) (by rw [em2, hp_up_j _ _ _ (by omega), a4 8 (by omega)]; exact h8)
          refine ⟨r, m', ?_, F2.trans g2, g3, g4⟩
          unfold J_X4_read_81
          rw [hp_put, ← em2, hp_set]
          exact g1
theorem c_read {bs : List Nat} {m : hMem} (h : TpC bs m) (hs : SzR m) : ∃ r m', f_X4_read m = some (r, m') ∧ Rl m m' r (e_all bs) := by
  obtain ⟨m1, em1⟩ : ∃ m1 : hMem, m1 = hv_up (hv_up (hv_up (hv_up (hv_up (hv_up m 3 7 0) 3 8 0) 3 9 0) 3 10 0) 3 11 0) 3 12 (-1) := ⟨_, rfl⟩
  have F1 : Fr 3 4 m m1 := by rw [em1]; exact ((((((Fr.refl _ _ _).up (by omega)).up (by omega)).up (by omega)).up (by omega)).up (by omega)).up (by omega)
  obtain ⟨m2, a1, a2, a3⟩ := c_begin (h.eq (F1 1 (by omega)) (F1 2 (by omega)))
  have e3 : ∀ j, m2 3 j = m1 3 j := fun j => by rw [a3 3 (by omega)]
  have h600 := h.2.1
  have dl : (bs.dropWhile bBl).length ≤ bs.length := len_drop_le
  have fj : ∀ j, m2 3 j = m1 3 j := e3
  obtain ⟨r, m', g1, g2, g3, g4⟩ := c_readL (bs := bs) hv_FU 601 0 0 0 0 [] (bs.dropWhile bBl) m2 (fu_lt (by omega)) (by omega) (by omega) ⟨by simp, fun n v hv => by simp at hv⟩ (by simp)
    ⟨a2, by rw [e3, em1, hp_up_j _ _ _ (by omega), hp_up_same]; rfl, by rw [e3, em1, hp_up_same]; rfl, by decide, by decide⟩
    ⟨by rw [e3, em1, hp_up_j _ _ _ (by omega), hp_up_j _ _ _ (by omega), hp_up_same]; rfl, fun j v hj => by simp at hj⟩ (hs.eq (by rw [a3 10 (by omega), F1 10 (by omega)]))
    (by rw [e3, em1, hp_up_j _ _ _ (by omega), hp_up_j _ _ _ (by omega), hp_up_j _ _ _ (by omega), hp_up_same]; rfl) (by omega) (by omega)
    (by rw [e3, em1, hp_up_j _ _ _ (by omega), hp_up_j _ _ _ (by omega), hp_up_j _ _ _ (by omega), hp_up_j _ _ _ (by omega), hp_up_j _ _ _ (by omega), hp_up_same]; rfl)
    (by rw [e3, em1, hp_up_j _ _ _ (by omega), hp_up_j _ _ _ (by omega), hp_up_j _ _ _ (by omega), hp_up_j _ _ _ (by omega), hp_up_same]; rfl)
  refine ⟨r, m', ?_, fun k hk => by rw [g2 k hk, a3 k (by omega), F1 k (by omega)], g3, g4⟩
  unfold f_X4_read
  rw [hp_put, hp_put, hp_put, hp_put, hp_put, hp_put, ← em1, a1, hp_b]
  exact g1
