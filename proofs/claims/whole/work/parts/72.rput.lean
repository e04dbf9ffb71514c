/-! the reference's heaps: put -/
section
variable {law : Nat} {A B : hA} {vs : List hVr} {G : hG} {m : hMem}
theorem r_put165 {x i : Nat} {q : List Nat} {k : Int} (h : Rel B vs G m) (hw : Wf law A) (hlaw : law = 0 ∨ law = 1) (hx : Hl A [x]) (hq : Tl A q) (hkk : Qk law A q) (hl : (jb A x ++ fm A n_jobs q).length ≤ 24) {g : hA × List Nat × Nat} (hg : g = (if law = 0 then (A ++ [mkT A A.length 0 x [] []], A.length :: q, 0) else s_carry (A ++ [mkT A A.length 0 x [] []]) A.length q)) (hp : Px g.1 B) (hS : Sm A B G) (hL : g_L G + q.length + 3 ≤ 40000) (hi : (g_H G)[i]? = some x) (hk : Lr m (g_L G) (g_T G) k q) :
    ∃ k' m' G', J_X11_sets_165 (law : Int) (i : Int) k m = some (k', m') ∧ Rel B vs G' m' ∧ Gx (In A.length g.1.length) (g.2.2 : Int) m G m' G' ∧ Lr m' (g_L G') (g_T G') k' g.2.1 ∧ g_L G' ≤ g_L G + q.length + 3 := by
  obtain ⟨x1, x2, x3⟩ := hx x (by simp)
  obtain ⟨n1, n2, n3, n4⟩ := new0_ok hw hx
  have p : Px A (A ++ [mkT A A.length 0 x [] []]) := Px.snoc _ _
  have f1 := fm_px p n_jobs hq.al
  have al : (A ++ [mkT A A.length 0 x [] []]).length = A.length + 1 := by rw [List.length_append]; rfl
  have cok : law = 1 → Qr law (A ++ [mkT A A.length 0 x [] []]) (jb (A ++ [mkT A A.length 0 x [] []]) A.length ++ fm (A ++ [mkT A A.length 0 x [] []]) n_jobs q) (rk (A ++ [mkT A A.length 0 x [] []]) A.length) 1 (q.length + 1) (s_carry (A ++ [mkT A A.length 0 x [] []]) A.length q) := fun c => carry_ok q n1 n2 (hq.px p) ((sx_px p hq.al).mpr (hkk.1 c)) (fun z hz => by rw [n3]; exact Nat.zero_le _) (by rw [n4, f1]; exact hl)
  have p1 : Px (A ++ [mkT A A.length 0 x [] []]) B := by
    rcases hlaw with c | c
    · rw [if_pos c] at hg; rw [hg] at hp; exact hp
    · rw [if_neg (by omega)] at hg; rw [hg] at hp; exact (cok c).2.1.trans hp
  have pA : Px A B := p.trans p1
  have bl := p1.len
  have zg : a_g B A.length = mkT A A.length 0 x [] [] := by rw [p1.g (by omega)]; exact a_g_new
  have e1 : n_head (a_g B A.length) = x := by rw [zg]; rfl
  have e2 : n_sg (a_g B A.length) = [] := by rw [zg]; rfl
  have e3 : n_bl (a_g B A.length) = [] := by rw [zg]; rfl
  have e4 : rk B A.length = 0 := by rw [rk, zg]; rfl
  have e5 : tn B A.length = tn B (n_head (a_g B A.length)) := by rw [e1, tn_px pA x2, tn, zg]; rfl
  obtain ⟨m1, t1, t2, t3⟩ := r_tree (a := A.length) (hh := i) (ks := -1) (kb := -1) h (by have := hS.2; omega) (by have := hw.1; omega) (by omega) (by rw [e1]; omega) (by rw [e1]; exact hi) e5 (by rw [e2]; rfl) (by rw [e3]; rfl)
  rw [e4] at t1
  have t1 : f_X11_tree 0 (i : Int) (-1) (-1) m = some (((g_T G).length : Int), m1) := t1
  have gT : (g_T (g_H G, g_T G ++ [A.length], g_L G))[(g_T G).length]? = some A.length := get_new _ _
  unfold J_X11_sets_165
  rw [t1, hp_b]
  rcases hlaw with c | c
  · rw [if_pos c] at hg
    rw [hg]
    obtain ⟨m2, a1, a2, a3, a4⟩ := r_ahead t2 (by show g_L G < 40000; omega) (g_T G).length k No
    refine ⟨(g_L G : Int), m2, (g_H G, g_T G ++ [A.length], g_L G + 1), ?_, a2, ?_, a4 _ q _ gT (t3.lT hk), by show g_L G + 1 ≤ _; omega⟩
    · rw [hp_eq_t (by omega) (by decide) (by omega), a1, hp_b]
      rfl
    · rw [al]
      exact (t3.post a3).cast rfl
  · rw [if_neg (by omega)] at hg
    obtain ⟨-, t5, -, -, -, -, -, t8, t9⟩ := cok c
    have hS1 : Sm (A ++ [mkT A A.length 0 x [] []]) B (g_H G, g_T G ++ [A.length], g_L G) := hS.step (A' := A ++ [mkT A A.length 0 x [] []]) (by rw [al]; exact t3) (by omega)
    have hL1 : g_L (g_H G, g_T G ++ [A.length], g_L G) = g_L G := rfl
    obtain ⟨k', m', G', a1, a2, a3, a4, a5⟩ := r_carry (A := A ++ [mkT A A.length 0 x [] []]) (t := A.length) (i := (g_T G).length) (q := q) (k := k) t2 n1 n2 (hq.px p) ((sx_px p hq.al).mpr (hkk.1 c)) (fun z hz => by rw [n3]; exact Nat.zero_le _) (by rw [n4, f1]; exact hl) (by rw [hg] at hp; exact hp) hS1 (by omega) gT (t3.lT hk)
    refine ⟨k', m', G', ?_, a2, ?_, by rw [hg]; exact a4, by omega⟩
    · rw [hp_eq_f (by omega) (by decide) (by omega), a1, hp_b]
      rfl
    · rw [hg]
      rw [al] at a3
      exact (t3.tr a3 (by omega) (by have := t5.len; omega)).cast (by omega)
theorem r_put118 {x i : Nat} {a d : Nat} {q : List Nat} {j2 : Nat} (h : Rel B vs G m) (hw : Wf law A) (hx : Hl A [x]) (ha : Tl A [a]) (hd : Tl A [d]) (hr : rk A a = rk A d) (hsz : (jb A a).length + (jb A d).length ≤ 24) (hp : Px (s_link A a d ++ [s_bn (s_link A a d) A.length x]) B) (hS : (g_T G).length + 1 < 8000) (hL : g_L G + 3 ≤ 40000) (hi : (g_H G)[i]? = some x) {ia id : Nat} (hia : (g_T G)[ia]? = some a) (hid : (g_T G)[id]? = some d) (hj : j2 < g_L G) (hk : Lr m (g_L G) (g_T G) (m 76 j2) q) :
    ∃ k' m' G', hv_b (f_X11_link (ia : Int) (id : Int) m) (fun r7 m8 => hv_ald m8 72 8000 r7 (fun v9 => hv_b (f_X11_isLess v9 (i : Int) m8) (fun r10 m11 => hv_eq r10 0 (J_X11_sets_100 (i : Int) (j2 : Int) r7 r10 (i : Int) m11) (hv_ald m11 72 8000 r7 (fun v12 => J_X11_sets_100 (i : Int) (j2 : Int) r7 r10 v12 m11))))) = some (k', m') ∧ Rel B vs G' m' ∧ Gx (In A.length (A.length + 2)) 1 m G m' G' ∧ Lr m' (g_L G') (g_T G') k' ((A.length + 1) :: q) ∧ g_L G' = g_L G + 3 := by
  obtain ⟨k1, k2, k3, k4, k5, k6⟩ := link_ok hw ha hd hr hsz
  have p1 : Px (s_link A a d) B := (Px.snoc _ _).trans hp
  have pA : Px A B := k2.trans p1
  obtain ⟨x0, xl, xd⟩ := hx x (by simp)
  obtain ⟨z0, zl, zd⟩ := k3 A.length (by simp)
  have bl : A.length + 2 ≤ B.length := by have := hp.len; rw [List.length_append, k6] at this; exact this
  have wg : a_g B (A.length + 1) = s_bn (s_link A a d) A.length x := by
    rw [hp.g (by rw [List.length_append, k6]; exact Nat.lt_succ_self _), ← k6]; exact a_g_new
  have zB : a_g B A.length = a_g (s_link A a d) A.length := p1.g zl
  obtain ⟨m1, a1, a2, a3⟩ := r_link h hw ha hd hr p1 hia hid (by omega) (by omega)
  have gT : (g_T (g_H G, g_T G ++ [A.length], g_L G + 1))[(g_T G).length]? = some A.length := get_new _ _
  obtain ⟨-, -, -, t71, ⟨ih, t72, tH⟩, tt, ts, tb⟩ := a2.2.2.2.2.2.2.2 _ _ gT
  obtain ⟨r, yy, sg, bl', eu, ⟨yy1, yy2, yy3⟩, -⟩ := wf_tree k1 k3
  have hdl : n_head (a_g (s_link A a d) A.length) < (s_link A a d).length := by rw [eu]; show yy < _; omega
  have hd0 : 0 < n_head (a_g (s_link A a d) A.length) := by rw [eu]; exact yy1
  rw [zB] at tH tt ts tb
  have tH : (g_H G)[ih]? = some (n_head (a_g (s_link A a d) A.length)) := tH
  have key : ∀ (i1 i2 hd' sn : Nat), (g_H G)[i1]? = some hd' → (g_H G)[i2]? = some sn → 0 < hd' → hd' < (s_link A a d).length → s_bn (s_link A a d) A.length x = mkT (s_link A a d) (s_link A a d).length (rk (s_link A a d) A.length) hd' (sn :: n_sg (a_g (s_link A a d) A.length)) (n_bl (a_g (s_link A a d) A.length)) →
      ∃ k' m' G', J_X11_sets_118 (j2 : Int) ((g_T G).length : Int) (i1 : Int) (i2 : Int) m1 = some (k', m') ∧ Rel B vs G' m' ∧ Gx (In A.length (A.length + 2)) 1 m G m' G' ∧ Lr m' (g_L G') (g_T G') k' ((A.length + 1) :: q) ∧ g_L G' = g_L G + 3 := by
    intro i1 i2 hd' sn g1 g2 h0 h1 es
    obtain ⟨m2, b1, b2, b3, b4⟩ := r_ahead a2 (by show g_L G + 1 < 40000; omega) i2 (m1 73 (g_T G).length) No
    have ls := b4 (g_H G) _ sn g2 ts
    obtain ⟨-, -, -, u71, -, -, -, ub⟩ := b2.2.2.2.2.2.2.2 _ _ gT
    rw [zB] at ub
    have e1 : n_head (a_g B (A.length + 1)) = hd' := by rw [wg, es]; rfl
    have e2 : n_sg (a_g B (A.length + 1)) = sn :: n_sg (a_g (s_link A a d) A.length) := by rw [wg, es]; rfl
    have e3 : n_bl (a_g B (A.length + 1)) = n_bl (a_g (s_link A a d) A.length) := by rw [wg, es]; rfl
    have e4 : rk B (A.length + 1) = rk B A.length := by rw [rk_px p1 zl, rk, wg, es]; rfl
    have e5 : tn B (A.length + 1) = tn B (n_head (a_g B (A.length + 1))) := by rw [e1, tn_px p1 h1, tn, wg, es]; rfl
    have T2 : (g_T (g_H G, g_T G ++ [A.length], g_L G + 1 + 1)).length = (g_T G).length + 1 := by show (g_T G ++ [A.length]).length = _; simp
    obtain ⟨m3, c1, c2, c3⟩ := r_tree (a := A.length + 1) (hh := i1) (ks := ((g_L G + 1 : Nat) : Int)) (kb := m2 74 (g_T G).length) b2 (by rw [← T2] at hS; exact hS) (by omega) (by omega) (by rw [e1]; omega) (by rw [e1]; exact g1) e5 (by rw [e2]; exact ls) (by rw [e3]; exact ub)
    have c1 : f_X11_tree (rk B (A.length + 1) : Int) (i1 : Int) ((g_L G + 1 : Nat) : Int) (m2 74 (g_T G).length) m2 = some ((((g_T G).length + 1 : Nat) : Int), m3) := by rw [← T2]; exact c1
    have G3 : Gx (In A.length (A.length + 2)) 1 m G m3 (g_H G, g_T G ++ [A.length] ++ [A.length + 1], g_L G + 1 + 1) := ((a3.post b3).tr c3 (by omega) (by omega)).cast (by decide)
    have gT3 : (g_T (g_H G, g_T G ++ [A.length] ++ [A.length + 1], g_L G + 1 + 1))[(g_T G).length + 1]? = some (A.length + 1) := by rw [← T2]; exact get_new _ _
    obtain ⟨m4, d1, d2, d3, d4⟩ := r_ahead c2 (by show g_L G + 1 + 1 < 40000; omega) ((g_T G).length + 1) (m3 76 j2) No
    have e76 : m3 76 j2 = m 76 j2 := (G3.1 j2 hj).2
    have lq := d4 _ q _ gT3 (by rw [e76]; exact G3.lT hk)
    refine ⟨((g_L G + 1 + 1 : Nat) : Int), m4, (g_H G, g_T G ++ [A.length] ++ [A.length + 1], g_L G + 1 + 1 + 1), ?_, d2, (G3.post d3).cast (by decide), lq, rfl⟩
    unfold J_X11_sets_118
    have b1 : f_X11_ahead (i2 : Int) (m1 73 (g_T G).length) m1 = some (((g_L G + 1 : Nat) : Int), m2) := b1
    have d1 : f_X11_ahead (((g_T G).length + 1 : Nat) : Int) (m3 76 j2) m3 = some (((g_L G + 1 + 1 : Nat) : Int), m4) := d1
    rw [hp_ald (by omega) (by omega), hp_ald (by omega) (by omega), Int.toNat_natCast, t71, b1, hp_b, hp_ald (by omega) (by omega), Int.toNat_natCast, ← e4, c1, hp_b, hp_ald (by omega) (by omega), Int.toNat_natCast, d1, hp_b]
    rfl
  have hl8 := h.h8 hi
  have hh8 := h.h8 tH
  have ml := r_isLess a2 tH hi
  rw [← tt, tn_px p1 zl, tn_px pA xl, ← tn_px k2 xl] at ml
  rw [a1, hp_b, hp_ald (by omega) (by omega), Int.toNat_natCast, t72, ml, hp_b]
  unfold J_X11_sets_100
  by_cases c : tn (s_link A a d) A.length < tn (s_link A a d) x
  · obtain ⟨k', m', G', q1, q2⟩ := key ih i _ x tH hi hd0 hdl (by unfold s_bn; rw [if_pos c])
    refine ⟨k', m', G', ?_, q2⟩
    rw [if_pos c, hp_eq_f (by decide) (by decide) (by decide), hp_ald (by omega) (by omega), Int.toNat_natCast, t72, hp_eq_f (by decide) (by decide) (by decide)]
    exact q1
  · obtain ⟨k', m', G', q1, q2⟩ := key i ih x _ hi tH x0 (by omega) (by unfold s_bn; rw [if_neg c])
    refine ⟨k', m', G', ?_, q2⟩
    rw [if_neg c, hp_eq_t (by decide) (by decide) rfl, hp_eq_t (by decide) (by decide) rfl, hp_ald (by omega) (by omega), Int.toNat_natCast, t72]
    exact q1
theorem r_put {x i : Nat} {q : List Nat} {k : Int} (h : Rel B vs G m) (hw : Wf law A) (hlaw : law = 0 ∨ law = 1) (hx : Hl A [x]) (hq : Tl A q) (hkk : Qk law A q) (hl : (jb A x ++ fm A n_jobs q).length ≤ 24) (hp : Px (s_put law A x q).1 B) (hS : Sm A B G) (hL : g_L G + q.length + 3 ≤ 40000) (hi : (g_H G)[i]? = some x) (hk : Lr m (g_L G) (g_T G) k q) :
    ∃ k' m' G', f_X11_sets (law : Int) (i : Int) k m = some (k', m') ∧ Rel B vs G' m' ∧ Gx (In A.length (s_put law A x q).1.length) ((s_put law A x q).2.2 : Int) m G m' G' ∧ Lr m' (g_L G') (g_T G') k' (s_put law A x q).2.1 ∧ g_L G' ≤ g_L G + q.length + 3 := by
  have L4 := h.2.2.2.1.2.2
  have viaJ : ¬ (law = 0 ∧ ∃ a b l, q = a :: b :: l ∧ rk A a = rk A b) → f_X11_sets (law : Int) (i : Int) k m = J_X11_sets_165 (law : Int) (i : Int) k m → ∃ k' m' G', f_X11_sets (law : Int) (i : Int) k m = some (k', m') ∧ Rel B vs G' m' ∧ Gx (In A.length (s_put law A x q).1.length) ((s_put law A x q).2.2 : Int) m G m' G' ∧ Lr m' (g_L G') (g_T G') k' (s_put law A x q).2.1 ∧ g_L G' ≤ g_L G + q.length + 3 := fun hne e => by
    rw [e]
    exact r_put165 h hw hlaw hx hq hkk hl (s_put_ne hne) hp hS hL hi hk
  cases q with
  | nil =>
    have k0 : k = -1 := hk
    refine viaJ (fun ⟨_, a, b, l, e, _⟩ => by cases e) ?_
    unfold f_X11_sets J_X11_sets_14
    rw [hp_lt_t (by omega) (by decide) (by omega), hp_lt_t (a := -1) (b := 0) (by decide) (by decide) (by decide)]
    rcases hlaw with c | c
    · rw [hp_eq_t (by omega) (by decide) (by omega)]
    · rw [hp_eq_f (by omega) (by decide) (by omega)]
  | cons a q =>
    obtain ⟨ha, hq1⟩ := tl_cons.mp hq
    obtain ⟨j, ja, ek, jL, e75, ga, hkr⟩ := id hk
    have ja8 := h.t8 ga
    have start : f_X11_sets (law : Int) (i : Int) k m = J_X11_sets_14 (law : Int) (i : Int) k (m 76 j) m := by
      unfold f_X11_sets
      rw [ek, hp_lt_f (by omega) (by decide) (by omega), hp_ald (by omega) (by omega), Int.toNat_natCast]
    cases q with
    | nil =>
      have k0 : m 76 j = -1 := hkr
      refine viaJ (fun ⟨_, a, b, l, e, _⟩ => by cases e) ?_
      rw [start, k0]
      unfold J_X11_sets_14
      rw [hp_lt_t (a := -1) (b := 0) (by decide) (by decide) (by decide)]
      rcases hlaw with c | c
      · rw [hp_eq_t (by omega) (by decide) (by omega)]
      · rw [hp_eq_f (by omega) (by decide) (by omega)]
    | cons d q =>
      obtain ⟨hd, hq2⟩ := tl_cons.mp hq1
      obtain ⟨j2, jd, ek2, j2L, f75, gd, hkr2⟩ := id hkr
      have jd8 := h.t8 gd
      rcases hlaw with c0 | c1
      · have al := (ha a (by simp)).2.1
        have dl := (hd d (by simp)).2.1
        have ba := wf_tn hw al
        have bd := wf_tn hw dl
        have pB : Px A B := (put_ok hw hx hq hkk hl (Or.inl c0)).2.1.trans hp
        have ra := (h.2.2.2.2.2.2.2 _ _ ga).2.2.2.1
        have rd := (h.2.2.2.2.2.2.2 _ _ gd).2.2.2.1
        rw [rk_px pB al] at ra
        rw [rk_px pB dl] at rd
        have start2 : f_X11_sets (law : Int) (i : Int) k m = hv_eq (rk A a : Int) (rk A d : Int) (hv_b (f_X11_link (ja : Int) (jd : Int) m) (fun r7 m8 => hv_ald m8 72 8000 r7 (fun v9 => hv_b (f_X11_isLess v9 (i : Int) m8) (fun r10 m11 => hv_eq r10 0 (J_X11_sets_100 (i : Int) (j2 : Int) r7 r10 (i : Int) m11) (hv_ald m11 72 8000 r7 (fun v12 => J_X11_sets_100 (i : Int) (j2 : Int) r7 r10 v12 m11)))))) (J_X11_sets_165 (law : Int) (i : Int) k m) := by
          rw [start, ek, ek2]
          unfold J_X11_sets_14
          rw [hp_eq_t (a := (law : Int)) (by omega) (by decide) (by omega), hp_lt_f (by omega) (by decide) (by omega), hp_ald (by omega) (by omega), Int.toNat_natCast, e75, hp_ald (by omega) (by omega), Int.toNat_natCast, ra, hp_ald (by omega) (by omega), Int.toNat_natCast, f75, hp_ald (by omega) (by omega), Int.toNat_natCast, rd, hp_ald (by omega) (by omega), Int.toNat_natCast, e75, hp_ald (by omega) (by omega), Int.toNat_natCast, f75]
        by_cases c : rk A a = rk A d
        · rw [hp_eq_t (by omega) (by omega) (by omega)] at start2
          have es : s_put law A x (a :: d :: q) = (s_link A a d ++ [s_bn (s_link A a d) A.length x], (A.length + 1) :: q, 1) := by rw [s_put2, if_pos ⟨c0, c⟩]
          rw [es] at hp ⊢
          have hl' : (jb A x ++ (jb A a ++ (jb A d ++ fm A n_jobs q))).length ≤ 24 := hl
          simp only [List.length_append] at hl'
          simp only [List.length_cons] at hL
          have pl : (s_link A a d ++ [s_bn (s_link A a d) A.length x]).length ≤ B.length := hp.len
          have sl : (s_link A a d ++ [s_bn (s_link A a d) A.length x]).length = A.length + 2 := by rw [List.length_append]; unfold s_link; rw [List.length_append]; rfl
          obtain ⟨k', m', G', q1, q2, q3, q4, q5⟩ := r_put118 (j2 := j2) (q := q) h hw hx ha hd c (by omega) hp (by have := hS.2; omega) (by omega) hi ga gd j2L hkr2
          refine ⟨k', m', G', by rw [start2]; exact q1, q2, ?_, q4, by simp only [List.length_cons]; omega⟩
          rw [sl]
          exact q3
        · rw [hp_eq_f (by omega) (by omega) (by omega)] at start2
          exact viaJ (fun ⟨_, a', b', l, e, e2⟩ => by cases e; exact c e2) start2
      · refine viaJ (fun e => by omega) ?_
        rw [start]
        unfold J_X11_sets_14
        rw [hp_eq_f (by omega) (by decide) (by omega)]
end
