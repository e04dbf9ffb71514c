/-! the class's reader: the lines of versions -/
theorem wr_id {x : Int} (h : hv_R32 x) : hv_wr x = x := hI_toInt h
theorem wr_r (x : Int) : hv_R32 (hv_wr x) := by
  unfold hv_wr hv_R32
  have h1 := Int32.toInt_lt (hv_I x)
  have h2 := Int32.le_toInt (hv_I x)
  omega
def Sl (vs : List hVr) (j : Nat) (v : hVr) (m : hMem) : Prop := m 5 j = (v_how v : Int) ∧ m 6 j = (if v_how v = 0 then -1 else (v_of v : Int)) ∧ m 7 j = (if v_how v = 2 then (v_ot v : Int) else -1) ∧ (v_how v = 1 → m 8 j = ((v_tu v / 30 : Nat) : Int) ∧ m 9 j = (v_ti v : Int)) ∧ m 10 j = (sz vs j : Int)
def RdC (vs : List hVr) (m : hMem) : Prop := m 3 10 = (vs.length : Int) ∧ ∀ j v, vs[j]? = some v → Sl vs j v m
def SzR (m : hMem) : Prop := ∀ j, j < 20 → hv_R32 (m 10 j)
theorem SzR.eq {m m' : hMem} (h : SzR m) (e : m' 10 = m 10) : SzR m' := fun j hj => by rw [e]; exact h j hj
theorem RdC.eq {vs : List hVr} {m m' : hMem} (h : RdC vs m) (e3 : m' 3 10 = m 3 10) (e : ∀ k, 5 ≤ k → k < 11 → m' k = m k) : RdC vs m' := by
  refine ⟨by rw [e3]; exact h.1, fun j v hj => ?_⟩
  unfold Sl
  rw [e 5 (by omega) (by omega), e 6 (by omega) (by omega), e 7 (by omega) (by omega), e 8 (by omega) (by omega), e 9 (by omega) (by omega), e 10 (by omega) (by omega)]
  exact h.2 j v hj
theorem sz_app {vs : List hVr} {v : hVr} {j : Nat} (h : j < vs.length) : sz (vs ++ [v]) j = sz vs j := by
  unfold sz
  have eb : b_all 99 (vs ++ [v]) = b_all 99 vs ++ [b_step 99 (b_all 99 vs) v] := b_snoc 99 vs v
  rw [eb, getD_app _ _ _ (by rw [b_len]; exact h)]
theorem sz_new {vs : List hVr} {v : hVr} (h30 : vs.length < 30) : sz (vs ++ [v]) vs.length = (if v_how v = 1 then sz vs (v_of v) + 1 else if v_how v = 2 then sz vs (v_of v) + sz vs (v_ot v) else if v_how v = 3 then sz vs (v_of v) - 1 else 0) := by
  unfold sz
  have eb : b_all 99 (vs ++ [v]) = b_all 99 vs ++ [b_step 99 (b_all 99 vs) v] := b_snoc 99 vs v
  have e2 : (b_all 99 vs ++ [b_step 99 (b_all 99 vs) v]).getD vs.length [] = b_step 99 (b_all 99 vs) v := by rw [← b_len 99 vs]; exact getD_snoc _ _ _
  rw [eb, e2]
  unfold b_step
  have n99 : (b_all 99 vs).length ≠ 99 := by rw [b_len]; omega
  by_cases c1 : v_how v = 1
  · rw [if_pos c1, if_pos c1, if_neg n99, (ins_perm _ _).length_eq, List.length_cons]
  · rw [if_neg c1, if_neg c1]
    by_cases c2 : v_how v = 2
    · rw [if_pos c2, if_pos c2, (mix_perm _ _).length_eq, List.length_append]
    · rw [if_neg c2, if_neg c2]
      by_cases c3 : v_how v = 3
      · rw [if_pos c3, if_pos c3, List.length_tail]
      · rw [if_neg c3, if_neg c3]; rfl
theorem c_keep {vs : List hVr} {m : hMem} {x1 x2 x3 x4 : Int} (h20 : vs.length < 20) (h : RdC vs m) (hs : SzR m) (hx : hv_R32 x4) : ∃ m', f_X4_keep x1 x2 x3 x4 m = some (0, m') ∧ SzR m' ∧ Fp m m' ∧ m' 4 = m 4 ∧ (∀ j, j ≠ 10 → m' 3 j = m 3 j) ∧
    ∀ v, x1 = (v_how v : Int) → x2 = (if v_how v = 0 then -1 else (v_of v : Int)) → x3 = (if v_how v = 2 then (v_ot v : Int) else -1) → (v_how v = 1 → m 8 vs.length = ((v_tu v / 30 : Nat) : Int) ∧ m 9 vs.length = (v_ti v : Int)) → x4 = (sz (vs ++ [v]) vs.length : Int) → RdC (vs ++ [v]) m' := by
  obtain ⟨m', em'⟩ : ∃ m' : hMem, m' = hv_up (hv_up (hv_up (hv_up (hv_up m 5 vs.length x1) 6 vs.length x2) 7 vs.length x3) 10 vs.length x4) 3 10 ((vs.length : Int) + 1) := ⟨_, rfl⟩
  refine ⟨m', ?_, fun j hj => ?_, ?_, ?_, fun j hj => ?_, fun v e1 e2 e3 e4 e5 => ⟨?_, fun j u hu => ?_⟩⟩
  · have s1 : f_X10_set 5 20 (m 3 10) x1 m = some (0, hv_up m 5 vs.length x1) := by rw [h.1, fe_set (by omega) (by omega) (by omega), Int.toNat_natCast]
    have s2 : f_X10_set 6 20 (hv_up m 5 vs.length x1 3 10) x2 (hv_up m 5 vs.length x1) = some (0, hv_up (hv_up m 5 vs.length x1) 6 vs.length x2) := by rw [hp_up_k _ _ _ _ (by omega), h.1, fe_set (by omega) (by omega) (by omega), Int.toNat_natCast]
    have s3 : f_X10_set 7 20 (hv_up (hv_up m 5 vs.length x1) 6 vs.length x2 3 10) x3 (hv_up (hv_up m 5 vs.length x1) 6 vs.length x2) = some (0, hv_up (hv_up (hv_up m 5 vs.length x1) 6 vs.length x2) 7 vs.length x3) := by rw [hp_up_k _ _ _ _ (by omega), hp_up_k _ _ _ _ (by omega), h.1, fe_set (by omega) (by omega) (by omega), Int.toNat_natCast]
    have s4 : f_X10_set 10 20 (hv_up (hv_up (hv_up m 5 vs.length x1) 6 vs.length x2) 7 vs.length x3 3 10) x4 (hv_up (hv_up (hv_up m 5 vs.length x1) 6 vs.length x2) 7 vs.length x3) = some (0, hv_up (hv_up (hv_up (hv_up m 5 vs.length x1) 6 vs.length x2) 7 vs.length x3) 10 vs.length x4) := by rw [hp_up_k _ _ _ _ (by omega), hp_up_k _ _ _ _ (by omega), hp_up_k _ _ _ _ (by omega), h.1, fe_set (by omega) (by omega) (by omega), Int.toNat_natCast]
    have s5 : hv_up (hv_up (hv_up (hv_up m 5 vs.length x1) 6 vs.length x2) 7 vs.length x3) 10 vs.length x4 3 10 = (vs.length : Int) := by rw [hp_up_k _ _ _ _ (by omega), hp_up_k _ _ _ _ (by omega), hp_up_k _ _ _ _ (by omega), hp_up_k _ _ _ _ (by omega), h.1]
    unfold f_X4_keep
    rw [s1, hp_b, s2, hp_b, s3, hp_b, s4, hp_b, hp_put, s5, ← em']
    rfl
  · rw [em', hp_up_k _ _ _ _ (by omega)]
    by_cases c : j = vs.length
    · rw [c, hp_up_same]; exact hx
    · rw [hp_up_j _ _ _ c, hp_up_k _ _ _ _ (by omega), hp_up_k _ _ _ _ (by omega), hp_up_k _ _ _ _ (by omega)]; exact hs j hj
  · intro k hk
    rw [em', hp_up_kk _ _ _ (by omega), hp_up_kk _ _ _ (by omega), hp_up_kk _ _ _ (by omega), hp_up_kk _ _ _ (by omega), hp_up_kk _ _ _ (by omega)]
  · rw [em', hp_up_kk _ _ _ (by omega), hp_up_kk _ _ _ (by omega), hp_up_kk _ _ _ (by omega), hp_up_kk _ _ _ (by omega), hp_up_kk _ _ _ (by omega)]
  · rw [em', hp_up_j _ _ _ hj, hp_up_k _ _ _ _ (by omega), hp_up_k _ _ _ _ (by omega), hp_up_k _ _ _ _ (by omega), hp_up_k _ _ _ _ (by omega)]
  · rw [em', hp_up_same, List.length_append]; rfl
  · unfold Sl
    by_cases c : j < vs.length
    · rw [List.getElem?_append_left c] at hu
      rw [sz_app c, em']
      simp (disch := omega) only [hp_up_k, hp_up_j]
      exact h.2 j u hu
    · have ej : j = vs.length := by
        rcases Nat.lt_or_ge j (vs.length + 1) with c | c
        · omega
        · rw [List.getElem?_eq_none (by rw [List.length_append]; exact c)] at hu; cases hu
      subst ej
      simp at hu
      subst hu
      rw [em']
      simp (disch := omega) only [hp_up_k, hp_up_same]
      exact ⟨e1, e2, e3, e4, e5⟩
/-- what a size is looked up as -/
def sa (m : hMem) (i : Int) : Int := if 0 ≤ i ∧ i < 20 then m 10 i.toNat else 0
theorem sa_at {m : hMem} {i : Int} (hi : hv_R32 i) : f_X10_at 10 20 i m = some (sa m i, m) := fe_at hi (by omega)
theorem sa_r {m : hMem} (h : SzR m) (i : Int) : hv_R32 (sa m i) := by
  unfold sa
  split
  · exact h _ (by omega)
  · decide
theorem sa_ok {vs : List hVr} {m : hMem} (h : RdC vs m) (h20 : vs.length ≤ 20) {j : Nat} (hj : j < vs.length) : sa m (j : Int) = (sz vs j : Int) := by
  unfold sa
  rw [if_pos ⟨by omega, by omega⟩, Int.toNat_natCast]
  obtain ⟨v, hv⟩ : ∃ v, vs[j]? = some v := ⟨_, List.getElem?_eq_getElem hj⟩
  exact (h.2 j v hv).2.2.2.2
/-- what a line of a version leaves -/
def Re (bs : List Nat) (vs : List hVr) (m m' : hMem) (e : Except (Int × Int) (hVr × List Nat)) : Prop := SzR m' ∧ Fp m m' ∧ (∀ j, j = 7 ∨ j = 8 ∨ j = 9 → m' 3 j = m 3 j) ∧
  (match e with
   | .ok r => Rd bs r.2 f0 m' ∧ RdC (vs ++ [r.1]) m'
   | .error f => f.1 ≠ 0 ∧ ∃ q', Rd bs q' f m')
theorem Re.mk {bs : List Nat} {vs : List hVr} {m m1 m' : hMem} {e : Except (Int × Int) (hVr × List Nat)} (hF : Fp m m1) (h3 : ∀ j, j = 7 ∨ j = 8 ∨ j = 9 → m1 3 j = m 3 j) (h : Re bs vs m1 m' e) : Re bs vs m m' e :=
  ⟨h.1, hF.trans h.2.1, fun j hj => (h.2.2.1 j hj).trans (h3 j hj), h.2.2.2⟩
theorem Fk.c5 {m m' : hMem} (h : Fk m m') : ∀ k, 5 ≤ k → k < 11 → m' k = m k := fun k h1 h2 => h.1 k (by omega) (by omega)
theorem RdC.fk {vs : List hVr} {m m' : hMem} (h : RdC vs m) (hF : Fk m m') : RdC vs m' := h.eq (hF.2 10 (by omega) (by omega) (by omega)) hF.c5
/-- sign, then keep: the end of a line -/
theorem c_close {bs q : List Nat} {vs : List hVr} {v : hVr} {f : Int × Int} {m m8 : hMem} {x1 x2 x3 x4 : Int} (h20 : vs.length < 20) (h : Rd bs q f m8) (hR : RdC vs m8) (hs : SzR m8) (hx : hv_R32 x4) (hF : Fp m m8) (h3 : ∀ j, j = 7 ∨ j = 8 ∨ j = 9 → m8 3 j = m 3 j) {e : Except (Int × Int) (hVr × List Nat)}
    (hok : ∀ r, e = .ok r → r.1 = v → True) (he : (f.1 ≠ 0 ∧ e = .error f) ∨ (f = f0 ∧ e = .ok (v, q) ∧ x1 = (v_how v : Int) ∧ x2 = (if v_how v = 0 then -1 else (v_of v : Int)) ∧ x3 = (if v_how v = 2 then (v_ot v : Int) else -1) ∧ (v_how v = 1 → m8 8 vs.length = ((v_tu v / 30 : Nat) : Int) ∧ m8 9 vs.length = (v_ti v : Int)) ∧ x4 = (sz (vs ++ [v]) vs.length : Int))) :
    ∃ m', f_X4_keep x1 x2 x3 x4 m8 = some (0, m') ∧ Re bs vs m m' e := by
  obtain ⟨m', k1, k2, k3, k4, k5, k6⟩ := c_keep (x1 := x1) (x2 := x2) (x3 := x3) h20 hR hs hx
  have hRd : Rd bs q f m' := by
    obtain ⟨q1, q2, q3, q4⟩ := h
    exact ⟨q1.eq (k3 1 (by omega)) (k3 2 (by omega)) k4, by rw [k5 11 (by omega)]; exact q2, by rw [k5 12 (by omega)]; exact q3, q4⟩
  refine ⟨m', k1, k2, hF.trans k3, fun j hj => (k5 j (by omega)).trans (h3 j hj), ?_⟩
  rcases he with ⟨e1, e2⟩ | ⟨e1, e2, e3, e4, e5, e6, e7⟩
  · rw [e2]
    exact ⟨e1, q, hRd⟩
  · rw [e2]
    rw [e1] at hRd
    exact ⟨hRd, k6 v e3 e4 e5 e6 e7⟩
theorem c_readNew {bs q : List Nat} {vs : List hVr} {m : hMem} (h20 : vs.length < 20) (h : Rd bs q f0 m) (hR : RdC vs m) (hs : SzR m) : ∃ m', f_X4_readNew m = some (0, m') ∧ Re bs vs m m' (e_end bs q (0, 0, 0, 0, 0)) := by
  obtain ⟨m1, a1, a2, a3⟩ := c_passSign h
  obtain ⟨m', g1, g2⟩ := c_close (v := ((0, 0, 0, 0, 0) : hVr)) (m := m) (x1 := 0) (x2 := -1) (x3 := -1) (x4 := 0) (e := e_end bs q ((0, 0, 0, 0, 0) : hVr)) h20 a2 (hR.fk a3) (hs.eq (a3.c5 10 (by omega) (by omega))) (by decide) a3.fp (fun j hj => a3.2 j (by omega) (by omega) (by omega)) (fun _ _ _ => trivial) (by
    cases c : e_end bs q ((0, 0, 0, 0, 0) : hVr) with
    | error e =>
      obtain ⟨r1, r2⟩ := end_bad c (f := f0) rfl
      exact Or.inl ⟨by rw [r1]; omega, by rw [r1]⟩
    | ok r =>
      obtain ⟨r1, r2⟩ := end_good c f0
      refine Or.inr ⟨r1, by rw [r2], rfl, rfl, rfl, (fun z => by have z : (0 : Nat) = 1 := z; omega), ?_⟩
      rw [sz_new (by omega)]
      rfl)
  refine ⟨m', ?_, g2⟩
  unfold f_X4_readNew
  rw [a1, hp_b, g1, hp_b]
  rfl
theorem c_readTake {bs q : List Nat} {vs : List hVr} {m : hMem} (h20 : vs.length < 20) (h : Rd bs q f0 m) (hR : RdC vs m) (hs : SzR m) : ∃ m', f_X4_readTake m = some (0, m') ∧ Re bs vs m m' (e_take bs vs q) := by
  have nr := nv_r q
  obtain ⟨m1, a1, a2, a3, a4⟩ := c_passNumber (lo := 0) (hi := (vs.length : Int) - 1) h (by decide) (by omega)
  have hs1 := hs.eq (a3.c5 10 (by omega) (by omega))
  have sr := sa_r hs1 (nv q)
  -- the size that is asked for
  obtain ⟨m2, b1, b2, b3⟩ : ∃ m2, hv_eq (sa m1 (nv q)) 0 (hv_b (f_X4_blame 2 (m1 3 13) m1) (fun r5 m6 => J_X4_readTake_32 (nv q) m6)) (J_X4_readTake_32 (nv q) m1) = J_X4_readTake_32 (nv q) m2 ∧ Rd bs (nq q) (fb (nf f0 bs q 0 ((vs.length : Int) - 1)) (decide (sa m1 (nv q) ≠ 0)) 2 (pl bs q)) m2 ∧ Fk m1 m2 := by
    by_cases c : sa m1 (nv q) = 0
    · obtain ⟨m2, d1, d2, d3, -⟩ := c_blame (k := 2) (p := pl bs q) a2 (by omega)
      refine ⟨m2, ?_, by rw [show decide (sa m1 (nv q) ≠ 0) = false by simp [c]]; exact d2, d3⟩
      rw [hp_eq_t sr (by decide) c, a4, d1, hp_b]
    · refine ⟨m1, ?_, by rw [show decide (sa m1 (nv q) ≠ 0) = true by simp [c], fb_t]; exact a2, Fk.refl _⟩
      rw [hp_eq_f sr (by decide) (by omega)]
  obtain ⟨m3, d1, d2, d3⟩ := c_passSign b2
  have F13 := (a3.trans b3).trans d3
  have hR3 := hR.fk F13
  have hs3 := hs.eq (F13.c5 10 (by omega) (by omega))
  obtain ⟨o, ho⟩ : ∃ o, o = vl q := ⟨_, rfl⟩
  obtain ⟨m', g1, g2⟩ := c_close (v := ((3, o, 0, 0, 0) : hVr)) (m := m) (x1 := 3) (x2 := nv q) (x3 := -1) (x4 := hv_wr (sa m3 (nv q) - 1)) (e := e_take bs vs q) h20 d2 hR3 hs3 (wr_r _) F13.fp (fun j hj => F13.2 j (by omega) (by omega) (by omega)) (fun _ _ _ => trivial) (by
    have e10 : sa m1 (nv q) = sa m3 (nv q) := by
      unfold sa
      rw [(b3.trans d3).c5 10 (by omega) (by omega)]
    unfold e_take
    cases c : e_num bs q 0 vs.length with
    | error e =>
      obtain ⟨n1, n2⟩ := num_bad c (by omega) (f := f0) rfl
      have n1 : nf f0 bs q 0 ((vs.length : Int) - 1) = e := n1
      have ne : e.1 ≠ 0 := by omega
      rw [n1, fb_bad ne, fb_bad ne]
      exact Or.inl ⟨ne, rfl⟩
    | ok o' =>
      obtain ⟨n1, n2, n3⟩ := num_good c (by omega) f0
      have n1 : nf f0 bs q 0 ((vs.length : Int) - 1) = f0 := n1
      obtain ⟨k1, k2, k3, k4⟩ := num_ok c
      have eo : o' = o := by rw [k2, ho]
      subst eo
      have es : sa m3 (nv q) = (sz vs o' : Int) := by rw [n2]; exact sa_ok hR3 (by omega) k4
      rw [n1, n3, e10, es]
      show _ ∨ (_ ∧ (if sz vs o' = 0 then _ else _ : Except (Int × Int) (hVr × List Nat)) = _ ∧ _)
      by_cases c2 : sz vs o' = 0
      · rw [if_pos c2, show decide ((sz vs o' : Int) ≠ 0) = false by simp [c2], fb_f rfl, fb_bad (bad2 _)]
        refine Or.inl ⟨bad2 _, ?_⟩
        show (if sz vs o' = 0 then _ else _ : Except (Int × Int) (hVr × List Nat)) = _
        rw [if_pos c2]
      · rw [if_neg c2, show decide ((sz vs o' : Int) ≠ 0) = true by simp [c2], fb_t]
        cases c3 : e_end bs (nx q) ((3, o', 0, 0, 0) : hVr) with
        | error e =>
          obtain ⟨r1, r2⟩ := end_bad c3 (f := f0) rfl
          refine Or.inl ⟨by rw [r1]; omega, ?_⟩
          show (if sz vs o' = 0 then _ else _ : Except (Int × Int) (hVr × List Nat)) = _
          rw [if_neg c2, r1, c3]
        | ok r =>
          obtain ⟨r1, r2⟩ := end_good c3 f0
          refine Or.inr ⟨r1, by rw [r2], rfl, by rw [n2]; rfl, rfl, (fun z => by have z : (3 : Nat) = 1 := z; omega), ?_⟩
          rw [sz_new (by omega)]
          show hv_wr ((sz vs o' : Int) - 1) = ((sz vs o' - 1 : Nat) : Int)
          have hr : hv_R32 ((sz vs o' : Int)) := by rw [← es]; exact sa_r hs3 _
          rw [wr_id (by unfold hv_R32 at hr ⊢; omega)]
          omega)
  refine ⟨m', ?_, g2⟩
  unfold f_X4_readTake
  rw [hR.1, a1, hp_b, sa_at (by omega), hp_b, b1]
  unfold J_X4_readTake_32
  rw [d1, hp_b, sa_at (by omega), hp_b, g1, hp_b]
  rfl
