/-! the class's reader: join, put, all lines -/
theorem sz_le {vs : List hVr} (h : Os vs) {j : Nat} (hj : j < vs.length) : sz vs j ≤ 24 := ((bo_all 99 vs h).1.2 j hj).2.1
theorem c_readJoin {bs q : List Nat} {vs : List hVr} {m : hMem} (ho30 : Os vs) (h20 : vs.length < 20) (h : Rd bs q f0 m) (hR : RdC vs m) (hs : SzR m) : ∃ m', f_X4_readJoin m = some (0, m') ∧ Re bs vs m m' (e_join bs vs q) := by
  have nr := nv_r q
  have nr2 := nv_r (nq q)
  obtain ⟨m1, a1, a2, a3, a4⟩ := c_passNumber (lo := 0) (hi := (vs.length : Int) - 1) h (by decide) (by omega)
  obtain ⟨m1', a1', a2', a3', a4'⟩ := c_passNumber (lo := 0) (hi := (vs.length : Int) - 1) a2 (by decide) (by omega)
  have F1 := a3.trans a3'
  have hs1 := hs.eq (F1.c5 10 (by omega) (by omega))
  obtain ⟨y, hy⟩ : ∃ y, y = hv_wr (sa m1' (nv q) + sa m1' (nv (nq q))) := ⟨_, rfl⟩
  have yr : hv_R32 y := by rw [hy]; exact wr_r _
  obtain ⟨m2, b1, b2, b3⟩ : ∃ m2, hv_lt 24 y (hv_b (f_X4_blame 2 (m1' 3 13) m1') (fun r10 m11 => J_X4_readJoin_57 (nv q) (nv (nq q)) y m11)) (J_X4_readJoin_57 (nv q) (nv (nq q)) y m1') = J_X4_readJoin_57 (nv q) (nv (nq q)) y m2 ∧ Rd bs (nq (nq q)) (fb (nf (nf f0 bs q 0 ((vs.length : Int) - 1)) bs (nq q) 0 ((vs.length : Int) - 1)) (decide (y ≤ 24)) 2 (pl bs (nq q))) m2 ∧ Fk m1' m2 := by
    by_cases c : 24 < y
    · obtain ⟨m2, d1, d2, d3, -⟩ := c_blame (k := 2) (p := pl bs (nq q)) a2' (by omega)
      refine ⟨m2, ?_, by rw [show decide (y ≤ 24) = false by simp; omega]; exact d2, d3⟩
      rw [hp_lt_t (by decide) yr c, a4', d1, hp_b]
    · refine ⟨m1', ?_, by rw [show decide (y ≤ 24) = true by simp; omega, fb_t]; exact a2', Fk.refl _⟩
      rw [hp_lt_f (by decide) yr (by omega)]
  obtain ⟨m3, d1, d2, d3⟩ := c_passSign b2
  have F13 := (F1.trans b3).trans d3
  have hR3 := hR.fk F13
  have hs3 := hs.eq (F13.c5 10 (by omega) (by omega))
  obtain ⟨o, ho⟩ : ∃ o, o = vl q := ⟨_, rfl⟩
  obtain ⟨o2, ho2⟩ : ∃ o2, o2 = vl (nx q) := ⟨_, rfl⟩
  obtain ⟨m', g1, g2⟩ := c_close (v := ((2, o, o2, 0, 0) : hVr)) (m := m) (x1 := 2) (x2 := nv q) (x3 := nv (nq q)) (x4 := y) (e := e_join bs vs q) h20 d2 hR3 hs3 yr F13.fp (fun j hj => F13.2 j (by omega) (by omega) (by omega)) (fun _ _ _ => trivial) (by
    unfold e_join
    cases c : e_num bs q 0 vs.length with
    | error e =>
      obtain ⟨n1, n2⟩ := num_bad c (by omega) (f := f0) rfl
      have n1 : nf f0 bs q 0 ((vs.length : Int) - 1) = e := n1
      have ne : e.1 ≠ 0 := by omega
      rw [n1, nf_bad ne, fb_bad ne, fb_bad ne]
      exact Or.inl ⟨ne, rfl⟩
    | ok o' =>
      obtain ⟨n1, n2, n3⟩ := num_good c (by omega) f0
      have n1 : nf f0 bs q 0 ((vs.length : Int) - 1) = f0 := n1
      obtain ⟨k1, k2, k3, k4⟩ := num_ok c
      have eo : o' = o := by rw [k2, ho]
      subst eo
      have hR1 := hR.fk F1
      have es : sa m1' (nv q) = (sz vs o' : Int) := by rw [n2]; exact sa_ok hR1 (by omega) k4
      rw [n1, n3]
      rw [n3, es] at hy
      show _ ∨ (_ ∧ (match e_num bs (nx q) 0 vs.length with | .error f => _ | .ok o2 => _ : Except (Int × Int) (hVr × List Nat)) = _ ∧ _)
      cases c2 : e_num bs (nx q) 0 vs.length with
      | error e =>
        obtain ⟨p1, p2⟩ := num_bad c2 (by omega) (f := f0) rfl
        have p1 : nf f0 bs (nx q) 0 ((vs.length : Int) - 1) = e := p1
        have ne : e.1 ≠ 0 := by omega
        rw [p1, fb_bad ne, fb_bad ne]
        exact Or.inl ⟨ne, rfl⟩
      | ok o2' =>
        obtain ⟨p1, p2, p3⟩ := num_good c2 (by omega) f0
        have p1 : nf f0 bs (nx q) 0 ((vs.length : Int) - 1) = f0 := p1
        obtain ⟨l1, l2, l3, l4⟩ := num_ok c2
        have eo2 : o2' = o2 := by rw [l2, ho2]
        subst eo2
        have es2 : sa m1' (nv (nx q)) = (sz vs o2' : Int) := by rw [p2]; exact sa_ok hR1 (by omega) l4
        rw [es2] at hy
        have r1 : hv_R32 (sz vs o' : Int) := by rw [← es]; exact sa_r hs1 _
        have r2 : hv_R32 (sz vs o2' : Int) := by rw [← es2]; exact sa_r hs1 _
        have b1' := sz_le ho30 k4
        have b2' := sz_le ho30 l4
        have hy : y = ((sz vs o' + sz vs o2' : Nat) : Int) := by rw [hy, wr_id (by omega)]; omega
        rw [p1, p3]
        by_cases c3 : 24 < sz vs o' + sz vs o2'
        · rw [show decide (y ≤ 24) = false by simp; omega, fb_f rfl, fb_bad (bad2 _)]
          refine Or.inl ⟨bad2 _, ?_⟩
          show (if 24 < sz vs o' + sz vs o2' then _ else _ : Except (Int × Int) (hVr × List Nat)) = _
          rw [if_pos c3]
        · rw [show decide (y ≤ 24) = true by simp; omega, fb_t]
          show _ ∨ (_ ∧ (if 24 < sz vs o' + sz vs o2' then _ else _ : Except (Int × Int) (hVr × List Nat)) = _ ∧ _)
          rw [if_neg c3]
          cases c4 : e_end bs (nx (nx q)) ((2, o', o2', 0, 0) : hVr) with
          | error e =>
            obtain ⟨r1, r2⟩ := end_bad c4 (f := f0) rfl
            refine Or.inl ⟨by rw [r1]; omega, ?_⟩
            show (if 24 < sz vs o' + sz vs o2' then _ else _ : Except (Int × Int) (hVr × List Nat)) = _
            rw [if_neg c3, r1, c4]
          | ok r =>
            obtain ⟨r1, r2⟩ := end_good c4 f0
            refine Or.inr ⟨r1, by rw [r2], rfl, by rw [n2]; rfl, by rw [p2]; rfl, (fun z => by have z : (2 : Nat) = 1 := z; omega), ?_⟩
            rw [sz_new (by omega), hy]
            rfl)
  refine ⟨m', ?_, g2⟩
  unfold f_X4_readJoin
  rw [hR.1, a1, hp_b, a3.2 10 (by omega) (by omega) (by omega), hR.1, a1', hp_b, sa_at (by omega), hp_b, sa_at (by omega), hp_b, hp_set, ← hy, b1]
  unfold J_X4_readJoin_57
  rw [d1, hp_b, g1, hp_b]
  rfl
theorem c_readPut {bs q : List Nat} {vs : List hVr} {m : hMem} (ho30 : Os vs) (h20 : vs.length < 20) (h : Rd bs q f0 m) (hR : RdC vs m) (hs : SzR m) : ∃ m', f_X4_readPut m = some (0, m') ∧ Re bs vs m m' (e_put bs vs q) := by
  have nr := nv_r q
  have nr2 := nv_r (nq q)
  have nr3 := nv_r (nx (nq (nq q)))
  obtain ⟨m1, a1, a2, a3, a4⟩ := c_passNumber (lo := 0) (hi := (vs.length : Int) - 1) h (by decide) (by omega)
  have hs1 := hs.eq (a3.c5 10 (by omega) (by omega))
  have sr := sa_r hs1 (nv q)
  obtain ⟨m2, b1, b2, b3⟩ : ∃ m2, hv_lt (sa m1 (nv q)) 24 (J_X4_readPut_34 (nv q) m1) (hv_b (f_X4_blame 2 (m1 3 13) m1) (fun r5 m6 => J_X4_readPut_34 (nv q) m6)) = J_X4_readPut_34 (nv q) m2 ∧ Rd bs (nq q) (fb (nf f0 bs q 0 ((vs.length : Int) - 1)) (decide (sa m1 (nv q) < 24)) 2 (pl bs q)) m2 ∧ Fk m1 m2 := by
    by_cases c : sa m1 (nv q) < 24
    · refine ⟨m1, ?_, by rw [show decide (sa m1 (nv q) < 24) = true by simp [c], fb_t]; exact a2, Fk.refl _⟩
      rw [hp_lt_t sr (by decide) c]
    · obtain ⟨m2, d1, d2, d3, -⟩ := c_blame (k := 2) (p := pl bs q) a2 (by omega)
      refine ⟨m2, ?_, by rw [show decide (sa m1 (nv q) < 24) = false by simp; omega]; exact d2, d3⟩
      rw [hp_lt_f sr (by decide) (by omega), a4, d1, hp_b]
  obtain ⟨m3, d1, d2, d3, -⟩ := c_passNumber (lo := 0) (hi := 999) b2 (by decide) (by decide)
  obtain ⟨m4, e1, e2, e3⟩ := c_passWord (w := 7) d2 (by omega)
  obtain ⟨m5, g1, g2, g3, -⟩ := c_passNumber (lo := 1) (hi := 99) e2 (by decide) (by decide)
  obtain ⟨m6, i1, i2, i3⟩ := c_passSign g2
  have F := ((((a3.trans b3).trans d3).trans e3).trans g3).trans i3
  have h10 : m6 3 10 = (vs.length : Int) := by rw [F.2 10 (by omega) (by omega) (by omega)]; exact hR.1
  obtain ⟨m8, em8⟩ : ∃ m8 : hMem, m8 = hv_up (hv_up m6 8 vs.length (nv (nq q))) 9 vs.length (nv (nx (nq (nq q)))) := ⟨_, rfl⟩
  have hRd8 : Rd bs (nx (nq (nx (nq (nq q))))) (fb (nf (fb (nf (fb (nf f0 bs q 0 ((vs.length : Int) - 1)) (decide (sa m1 (nv q) < 24)) 2 (pl bs q)) bs (nq q) 0 999) (isw 7 (nq (nq q))) 1 (pl bs (nq (nq q)))) bs (nx (nq (nq q))) 1 99) (decide (kd (nq (nx (nq (nq q)))) = 3)) 1 (pl bs (nq (nx (nq (nq q)))))) m8 := by
    rw [em8]
    exact i2.eq (by rw [hp_up_kk _ _ _ (by omega), hp_up_kk _ _ _ (by omega)]) (by rw [hp_up_kk _ _ _ (by omega), hp_up_kk _ _ _ (by omega)]) (by rw [hp_up_kk _ _ _ (by omega), hp_up_kk _ _ _ (by omega)]) (by rw [hp_up_kk _ _ _ (by omega), hp_up_kk _ _ _ (by omega)])
  have hR6 := hR.fk F
  have hR8 : RdC vs m8 := by
    refine ⟨by rw [em8, hp_up_k _ _ _ _ (by omega), hp_up_k _ _ _ _ (by omega)]; exact h10, fun j v hj => ?_⟩
    have jl : j < vs.length := by
      rcases Nat.lt_or_ge j vs.length with c | c
      · exact c
      · rw [List.getElem?_eq_none c] at hj; cases hj
    unfold Sl
    rw [em8]
    simp (disch := omega) only [hp_up_k, hp_up_j]
    exact hR6.2 j v hj
  have hs8 : SzR m8 := hs.eq (by rw [em8, hp_up_kk _ _ _ (by omega), hp_up_kk _ _ _ (by omega), F.c5 10 (by omega) (by omega)])
  have F8 : Fp m m8 := by rw [em8]; exact (F.fp.up (by omega)).up (by omega)
  obtain ⟨o, ho⟩ : ∃ o, o = vl q := ⟨_, rfl⟩
  obtain ⟨k, hk⟩ : ∃ k, k = vl (nx q) := ⟨_, rfl⟩
  obtain ⟨t, ht⟩ : ∃ t, t = vl (nx (nx (nx q))) := ⟨_, rfl⟩
  have nn := nput_le vs
  obtain ⟨m', z1, z2⟩ := c_close (v := ((1, o, 0, k * 30 + nput vs, t) : hVr)) (m := m) (x1 := 1) (x2 := nv q) (x3 := -1) (x4 := hv_wr (sa m8 (nv q) + 1)) (e := e_put bs vs q) h20 hRd8 hR8 hs8 (wr_r _) F8 (fun j hj => by rw [em8, hp_up_k _ _ _ _ (by omega), hp_up_k _ _ _ _ (by omega)]; exact F.2 j (by omega) (by omega) (by omega)) (fun _ _ _ => trivial) (by
    unfold e_put
    cases c : e_num bs q 0 vs.length with
    | error e =>
      obtain ⟨n1, n2⟩ := num_bad c (by omega) (f := f0) rfl
      have n1 : nf f0 bs q 0 ((vs.length : Int) - 1) = e := n1
      have ne : e.1 ≠ 0 := by omega
      rw [n1]
      simp only [fb_bad ne, nf_bad ne]
      exact Or.inl ⟨ne, trivial⟩
    | ok o' =>
      obtain ⟨n1, n2, n3⟩ := num_good c (by omega) f0
      have n1 : nf f0 bs q 0 ((vs.length : Int) - 1) = f0 := n1
      obtain ⟨k1, k2, k3, k4⟩ := num_ok c
      have eo : o' = o := by rw [k2, ho]
      subst eo
      have es1 : sa m1 (nv q) = (sz vs o' : Int) := by rw [n2]; exact sa_ok (hR.fk a3) (by omega) k4
      have es8 : sa m8 (nv q) = (sz vs o' : Int) := by rw [n2]; exact sa_ok hR8 (by omega) k4
      have sb := sz_le ho30 k4
      rw [n1, n3, es1, es8]
      rw [n3] at em8
      by_cases c1 : 24 ≤ sz vs o'
      · rw [show decide ((sz vs o' : Int) < 24) = false by simp; omega, fb_f rfl]
        rw [nf_bad (bad2 _), fb_bad (bad2 _), nf_bad (bad2 _), fb_bad (bad2 _)]
        refine Or.inl ⟨bad2 _, ?_⟩
        show (if 24 ≤ sz vs o' then _ else _ : Except (Int × Int) (hVr × List Nat)) = _
        rw [if_pos c1]
      · rw [show decide ((sz vs o' : Int) < 24) = true by simp; omega, fb_t]
        show _ ∨ (_ ∧ (if 24 ≤ sz vs o' then _ else _ : Except (Int × Int) (hVr × List Nat)) = _ ∧ _)
        rw [if_neg c1]
        have ifn : ∀ (a b : Except (Int × Int) (hVr × List Nat)), (if 24 ≤ sz vs o' then a else b) = b := fun a b => if_neg c1
        cases c2 : e_num bs (nx q) 0 1000 with
        | error e =>
          obtain ⟨p1, p2⟩ := num_bad c2 (by omega) (f := f0) rfl
          have p1 : nf f0 bs (nx q) 0 999 = e := p1
          have ne : e.1 ≠ 0 := by omega
          rw [p1]
          simp only [fb_bad ne, nf_bad ne]
          exact Or.inl ⟨ne, ifn _ _⟩
        | ok k' =>
          obtain ⟨p1, p2, p3⟩ := num_good c2 (by omega) f0
          have p1 : nf f0 bs (nx q) 0 999 = f0 := p1
          obtain ⟨l1, l2, l3, l4⟩ := num_ok c2
          have ek : k' = k := by rw [l2, hk]
          subst ek
          rw [p1, p3]
          rw [p2, p3] at em8
          show _ ∨ (_ ∧ (if isw 7 (nx (nx q)) = false then _ else _ : Except (Int × Int) (hVr × List Nat)) = _ ∧ _)
          cases c3 : isw 7 (nx (nx q)) with
          | false =>
            rw [fb_f rfl, nf_bad (bad1 _), fb_bad (bad1 _)]
            exact Or.inl ⟨bad1 _, (ifn _ _).trans (if_pos rfl)⟩
          | true =>
            rw [if_neg (by simp), fb_t]
            have ifm : ∀ (a b : Except (Int × Int) (hVr × List Nat)), (if isw 7 (nx (nx q)) = false then a else b) = b := fun a b => if_neg (by rw [c3]; simp)
            cases c4 : e_num bs (nx (nx (nx q))) 1 100 with
            | error e =>
              obtain ⟨u1, u2⟩ := num_bad c4 (by omega) (f := f0) rfl
              have u1 : nf f0 bs (nx (nx (nx q))) 1 99 = e := u1
              have ne : e.1 ≠ 0 := by omega
              rw [u1]
              simp only [fb_bad ne]
              exact Or.inl ⟨ne, (ifn _ _).trans (if_neg (by simp))⟩
            | ok t' =>
              obtain ⟨u1, u2, u3⟩ := num_good c4 (by omega) f0
              have u1 : nf f0 bs (nx (nx (nx q))) 1 99 = f0 := u1
              obtain ⟨w1, w2, w3, w4⟩ := num_ok c4
              have et : t' = t := by rw [w2, ht]
              subst et
              rw [u1, u3]
              rw [u2] at em8
              show _ ∨ (_ ∧ e_end bs (nx (nx (nx (nx q)))) ((1, o', 0, k' * 30 + nput vs, t') : hVr) = _ ∧ _)
              cases c5 : e_end bs (nx (nx (nx (nx q)))) ((1, o', 0, k' * 30 + nput vs, t') : hVr) with
              | error e =>
                obtain ⟨r1, r2⟩ := end_bad c5 (f := f0) rfl
                refine Or.inl ⟨by rw [r1]; omega, (ifn _ _).trans ?_⟩
                rw [r1]
                show (if true = false then _ else e_end bs (nx (nx (nx (nx q)))) ((1, o', 0, k' * 30 + nput vs, t') : hVr) : Except (Int × Int) (hVr × List Nat)) = _
                rw [if_neg (by simp), c5]
              | ok r =>
                obtain ⟨r1, r2⟩ := end_good c5 f0
                refine Or.inr ⟨r1, by rw [r2], rfl, by rw [n2]; rfl, rfl, (fun _ => ?_), ?_⟩
                · rw [em8, hp_up_k _ _ _ _ (by omega), hp_up_same, hp_up_same]
                  show (k' : Int) = (((k' * 30 + nput vs) / 30 : Nat) : Int) ∧ (t' : Int) = (t' : Int)
                  exact ⟨by omega, rfl⟩
                · rw [sz_new (by omega), wr_id (by omega)]
                  show (sz vs o' : Int) + 1 = ((sz vs o' + 1 : Nat) : Int)
                  omega)
  refine ⟨m', ?_, z2⟩
  unfold f_X4_readPut
  rw [hR.1, a1, hp_b, sa_at (by omega), hp_b, b1]
  unfold J_X4_readPut_34
  rw [d1, hp_b, e1, hp_b, g1, hp_b, i1, hp_b, h10, fe_set (by omega) (by omega) (by omega), hp_b, Int.toNat_natCast, hp_up_k _ _ _ _ (by omega), h10, fe_set (by omega) (by omega) (by omega), hp_b, Int.toNat_natCast, ← em8, sa_at (by omega), hp_b, z1, hp_b]
  rfl
