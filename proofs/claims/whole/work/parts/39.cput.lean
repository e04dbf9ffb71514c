/-! the class's heaps: carry, put, rows turned, all but one, the least -/
theorem fu_lt {n : Nat} (h : n < 1000000) : n < hv_FU := h
theorem c_carry {law b : Nat} {A : hA} {R t : Nat} {q : List Nat} {k : Int} {m : hMem} (h : Ce (b + 1) A R m) (hk : Rw (b + 1) m R k q) (hw : Wf law A) (ht : Tl A [t]) (hq : Tl A q) (hs : Sx A q) (hr : ∀ x ∈ q, rk A t ≤ rk A x) (hl : (jb A t ++ fm A n_jobs q).length ≤ 24) (hR : R + (s_carry A t q).2.2 + 1 ≤ 2592) (hA : A.length + (s_carry A t q).2.2 ≤ 864) :
    ∃ k' m', f_X2_carry b (t : Int) k m = some (k', m') ∧ Ce (b + 1) (s_carry A t q).1 (R + (s_carry A t q).2.2 + 1) m' ∧ Rw (b + 1) m' (R + (s_carry A t q).2.2 + 1) k' (s_carry A t q).2.1 ∧ Ex (b + 1) A.length R m m' ∧ Fl b ((s_carry A t q).2.2 : Int) m m' := by
  have h0 := (ht t (by simp)).1
  have h1 := (ht t (by simp)).2.1
  have h8 := h.lt
  have hql : q.length ≤ 24 := by
    have := fm_len hw hq.al
    rw [List.length_append] at hl
    omega
  obtain ⟨k', m', g⟩ := c_carryL (b := b) q hv_FU (i := 0) (fu_lt (by omega)) (by omega) h hk hw ht hq hs hr hl hR hA
  refine ⟨k', m', ?_, g.2⟩
  unfold f_X2_carry
  rw [hp_eq_f (by omega) (by decide) (by omega)]
  exact g.1
theorem c_cf {law b : Nat} {A : hA} {R : Nat} {q : List Nat} {k : Int} {m : hMem} (h : Ce (b + 1) A R m) (hk : Rw (b + 1) m R k q) (hw : Wf law A) (hq : Tl A q) (hs : Sx A q.tail) (hww : ∀ x y l, q = x :: y :: l → rk A x ≤ rk A y) (hl : (fm A n_jobs q).length ≤ 24) (hR : R + q.length ≤ 2592) (hA : A.length + q.length ≤ 864) :
    ∃ k' m' R', hv_b (f_X1_firstOf (b + 1) k m) (fun r1 m2 => hv_b (f_X1_restOf (b + 1) k m2) (fun r3 m4 => f_X2_carry b r1 r3 m4)) = some (k', m') ∧ R ≤ R' ∧ R' + (if q = [] then 0 else (s_cf A q).2.1.length) ≤ R + q.length + (if q = [] then 0 else 1) ∧ Ce (b + 1) (s_cf A q).1 R' m' ∧ Rw (b + 1) m' R' k' (s_cf A q).2.1 ∧ Ex (b + 1) A.length R m m' ∧ Fl b ((s_cf A q).2.2 : Int) m m' := by
  rw [ce_first h hk, hp_b]
  obtain ⟨kr, r1, r2⟩ := ce_rest h hk
  rw [r1, hp_b]
  cases q with
  | nil =>
    have e : kr = 0 := r2
    refine ⟨kr, m, R, ?_, Nat.le_refl _, by simp, h, r2, Ex.refl _ _ _ _, Fl.refl _ _⟩
    unfold f_X2_carry
    rw [show (([] : List Nat).headD 0 : Nat) = 0 from rfl, hp_eq_t (by decide) (by decide) (by rfl)]
    rfl
  | cons x q =>
    obtain ⟨hx, hq'⟩ := tl_cons.mp hq
    have hs : Sx A q := hs
    have hr : ∀ y ∈ q, rk A x ≤ rk A y := fun y hy => by
      cases q with
      | nil => simp at hy
      | cons z q =>
        have h1 := hww x z q rfl
        rcases List.mem_cons.mp hy with rfl | hy
        · exact h1
        · exact Nat.le_of_lt (Nat.lt_of_le_of_lt h1 ((List.pairwise_cons.mp hs).1 y hy))
    obtain ⟨-, -, -, -, -, -, -, g8, g9⟩ := carry_ok q hw hx hq' hs hr hl
    simp only [List.length_cons] at hR hA
    have r2 : Rw (b + 1) m R kr q := r2
    obtain ⟨k', m', a1, a2, a3, a4, a5⟩ := c_carry h r2 hw hx hq' hs hr hl (by omega) (by omega)
    refine ⟨k', m', R + (s_carry A x q).2.2 + 1, a1, by omega, ?_, a2, a3, a4, a5⟩
    rw [if_neg (by simp), if_neg (by simp)]
    show R + (s_carry A x q).2.2 + 1 + (s_carry A x q).2.1.length ≤ R + (q.length + 1) + 1
    omega
theorem c_put91 {law b : Nat} {A : hA} {R x : Nat} {q : List Nat} {k : Int} {m : hMem} (h : Ce (b + 1) A R m) (hk : Rw (b + 1) m R k q) (hw : Wf law A) (hlaw : law = 0 ∨ law = 1) (hb : m b 0 = (law : Int)) (hx : Hl A [x]) (hq : Tl A q) (hkk : Qk law A q) (hl : (jb A x ++ fm A n_jobs q).length ≤ 24) (hR : R + 8 + q.length ≤ 2592) (hAl : A.length + 2 + q.length ≤ 864) :
    ∃ k' m' R', J_X2_putInto_91 b (x : Int) k m = some (k', m') ∧ R ≤ R' ∧ (law = 0 → R' ≤ R + 1) ∧ (law = 1 → R' ≤ R + 1 + (s_carry (A ++ [mkT A A.length 0 x [] []]) A.length q).2.2) ∧ (∀ g : hA × List Nat × Nat, g = (if law = 0 then (A ++ [mkT A A.length 0 x [] []], A.length :: q, 0) else s_carry (A ++ [mkT A A.length 0 x [] []]) A.length q) → Ce (b + 1) g.1 R' m' ∧ Rw (b + 1) m' R' k' g.2.1 ∧ Fl b (g.2.2 : Int) m m') ∧ Ex (b + 1) A.length R m m' := by
  obtain ⟨x1, x2, x3⟩ := hx x (by simp)
  obtain ⟨n1, n2, n3, n4⟩ := new0_ok hw hx
  have hz : Rw (b + 1) m R 0 [] := rfl
  obtain ⟨m1, t1, t2, t3, t4⟩ := ce_tree (r := 0) (x := x) (sg := []) (bl := []) h (by omega) x2 hz hz rfl rfl
  have e1 : n_holds (mkT A A.length 0 x [] []) = n_holds (a_g A x) := by show n_holds (a_g A x) + 0 + 0 = _; omega
  have e2 : n_deep (mkT A A.length 0 x [] []) = n_deep (a_g A x) := by show max (n_deep (a_g A x)) (max 0 0) = _; omega
  rw [e1, e2] at t1
  have hb1 : m1 b 0 = (law : Int) := by rw [congrFun (t4 b (by omega)) 0]; exact hb
  have hk1 := Rw.ex t3 (Nat.le_refl _) hk
  have p : Px A (A ++ [mkT A A.length 0 x [] []]) := Px.snoc _ _
  have f1 := fm_px p n_jobs hq.al
  unfold J_X2_putInto_91
  rw [ce_holds h x2, hp_b, ce_deep h x2, hp_b]
  rw [show ((0 : Nat) : Int) = 0 from rfl] at t1
  rw [t1, hp_b, hb1]
  rcases hlaw with c | c
  · have hb0 : (law : Int) = 0 := by omega
    obtain ⟨m2, r1, r2, r3, r4, r5⟩ := ce_row (x := A.length) t2 (by omega) hk1
    refine ⟨(R : Int), m2, R + 1, ?_, by omega, fun _ => Nat.le_refl _, fun e => by omega, ?_, t3.trans (r4.mono (by simp) (Nat.le_refl _)) (Nat.le_refl _) (Nat.le_refl _)⟩
    · rw [hp_eq_t (by omega) (by decide) hb0, r1, hp_b]
      rfl
    · intro g hg
      rw [if_pos c] at hg
      subst hg
      exact ⟨r2, r3, ((Fl.of_Fr t4).trans (Fl.of_Fr r5)).cast (by simp)⟩
  · have g := carry_ok q n1 n2 (hq.px p) ((sx_px p hq.al).mpr (hkk.1 c)) (fun z hz => by rw [n3]; exact Nat.zero_le _) (by rw [n4, f1]; exact hl)
    obtain ⟨-, -, -, -, -, -, -, g8, g9⟩ := g
    obtain ⟨k', m', a1, a2, a3, a4, a5⟩ := c_carry (b := b) t2 hk1 n1 n2 (hq.px p) ((sx_px p hq.al).mpr (hkk.1 c)) (fun z hz => by rw [n3]; exact Nat.zero_le _) (by rw [n4, f1]; exact hl) (by omega) (by rw [List.length_append]; simp; omega)
    refine ⟨k', m', R + (s_carry (A ++ [mkT A A.length 0 x [] []]) A.length q).2.2 + 1, ?_, by omega, fun e => by omega, fun _ => by omega, ?_, t3.trans (a4.mono (by simp) (Nat.le_refl _)) (Nat.le_refl _) (Nat.le_refl _)⟩
    · rw [hp_eq_f (by omega) (by decide) (by omega), a1, hp_b]
      rfl
    · intro g hg
      rw [if_neg (show ¬ law = 0 by omega)] at hg
      subst hg
      exact ⟨a2, a3, ((Fl.of_Fr t4).trans a5).cast (by omega)⟩
theorem s_put_ne {law : Nat} {A : hA} {x : Nat} {q : List Nat} (h : ¬ (law = 0 ∧ ∃ a b l, q = a :: b :: l ∧ rk A a = rk A b)) : s_put law A x q = if law = 0 then (A ++ [mkT A A.length 0 x [] []], A.length :: q, 0) else s_carry (A ++ [mkT A A.length 0 x [] []]) A.length q := by
  cases q with
  | nil => rfl
  | cons a q =>
    cases q with
    | nil => rfl
    | cons b q =>
      rw [s_put2, if_neg (fun e => h ⟨e.1, a, b, q, rfl, e.2⟩)]
theorem c_put {law b : Nat} {A : hA} {R x : Nat} {q : List Nat} {k : Int} {m : hMem} (h : Ce (b + 1) A R m) (hk : Rw (b + 1) m R k q) (hw : Wf law A) (hlaw : law = 0 ∨ law = 1) (hb : m b 0 = (law : Int)) (hx : Hl A [x]) (hq : Tl A q) (hkk : Qk law A q) (hl : (jb A x ++ fm A n_jobs q).length ≤ 24) (hR : R + 8 + q.length ≤ 2592) (hA : A.length + 2 + q.length ≤ 864) :
    ∃ k' m' R', f_X2_putInto b (x : Int) k m = some (k', m') ∧ R ≤ R' ∧ (law = 0 → R' ≤ R + 3) ∧ (law = 1 → R' ≤ R + 1 + (s_put law A x q).2.2) ∧ Ce (b + 1) (s_put law A x q).1 R' m' ∧ Rw (b + 1) m' R' k' (s_put law A x q).2.1 ∧ Fl b ((s_put law A x q).2.2 : Int) m m' ∧ Ex (b + 1) A.length R m m' := by
  obtain ⟨kr, r1, r2⟩ := ce_rest h hk
  have hkr := r2.lt h.2.2.2.2.2.1
  obtain ⟨kr2, rr1, rr2⟩ := ce_rest h r2
  have viaJ : ¬ (law = 0 ∧ ∃ a b l, q = a :: b :: l ∧ rk A a = rk A b) → f_X2_putInto b (x : Int) k m = J_X2_putInto_91 b (x : Int) k m → ∃ k' m' R', f_X2_putInto b (x : Int) k m = some (k', m') ∧ R ≤ R' ∧ (law = 0 → R' ≤ R + 3) ∧ (law = 1 → R' ≤ R + 1 + (s_put law A x q).2.2) ∧ Ce (b + 1) (s_put law A x q).1 R' m' ∧ Rw (b + 1) m' R' k' (s_put law A x q).2.1 ∧ Fl b ((s_put law A x q).2.2 : Int) m m' ∧ Ex (b + 1) A.length R m m' := by
    intro hne e
    obtain ⟨k', m', R', j1, j2, j3, j4, j5, j6⟩ := c_put91 h hk hw hlaw hb hx hq hkk hl hR hA
    obtain ⟨i1, i2, i3⟩ := j5 _ (s_put_ne hne)
    refine ⟨k', m', R', by rw [e]; exact j1, j2, fun e => by have := j3 e; omega, fun e => ?_, i1, i2, i3, j6⟩
    rw [s_put_ne hne, if_neg (by omega)]
    exact j4 e
  have start : f_X2_putInto b (x : Int) k m = hv_eq (law : Int) 0 (hv_eq kr 0 (J_X2_putInto_91 b (x : Int) k m) (hv_b (f_X1_rankOf (b + 1) ((q.headD 0 : Nat) : Int) m) (fun r7 m8 => hv_b (f_X1_rankOf (b + 1) ((q.tail.headD 0 : Nat) : Int) m8) (fun r9 m10 => hv_eq r7 r9 (hv_b (f_X2_link b ((q.headD 0 : Nat) : Int) ((q.tail.headD 0 : Nat) : Int) m10) (fun r11 m12 => hv_b (f_X2_linkBeside b r11 (x : Int) m12) (fun r13 m14 => hv_b (f_X1_restOf (b + 1) kr m14) (fun r15 m16 => hv_b (f_X1_row (b + 1) r13 r15 m16) (fun r17 m18 => hv_ret r17 m18))))) (J_X2_putInto_91 b (x : Int) k m10))))) (J_X2_putInto_91 b (x : Int) k m) := by
    unfold f_X2_putInto
    rw [ce_first h hk, hp_b, r1, hp_b, ce_first h r2, hp_b, hb]
  by_cases c0 : law = 0
  · have hl0 : (law : Int) = 0 := by omega
    rw [hp_eq_t (by omega) (by decide) hl0] at start
    cases q with
    | nil =>
      have e : kr = 0 := r2
      rw [hp_eq_t (by omega) (by decide) e] at start
      exact viaJ (fun ⟨_, a, b, l, e, _⟩ => by cases e) start
    | cons a q =>
      cases q with
      | nil =>
        have e : kr = 0 := r2
        rw [hp_eq_t (by omega) (by decide) e] at start
        exact viaJ (fun ⟨_, a, b, l, e, _⟩ => by cases e) start
      | cons d q =>
        have hne : kr ≠ 0 := fun e => by have := r2.nil_iff.mp e; cases this
        obtain ⟨ha, hq1⟩ := tl_cons.mp hq
        obtain ⟨hd, hq2⟩ := tl_cons.mp hq1
        have a2 := (ha a (by simp)).2.1
        have d2 := (hd d (by simp)).2.1
        have ba := wf_tn hw a2
        have bd := wf_tn hw d2
        simp only [List.headD_cons, List.tail_cons] at start
        rw [hp_eq_f (by omega) (by decide) (by omega), ce_rank h a2, hp_b, ce_rank h d2, hp_b] at start
        by_cases c1 : rk A a = rk A d
        · rw [hp_eq_t (by omega) (by omega) (by omega)] at start
          have hl' : (jb A x ++ (jb A a ++ (jb A d ++ fm A n_jobs q))).length ≤ 24 := hl
          simp only [List.length_append] at hl'
          simp only [List.length_cons] at hR hA
          obtain ⟨k1, k2, k3, k4, k5, k6⟩ := link_ok hw ha hd c1 (by omega)
          obtain ⟨m1, g1, g2, g3, g4⟩ := c_link (b := b) h hw (by omega) (by omega) ha hd
          have xl := (hx x (by simp)).2.1
          obtain ⟨m2, e1, e2, e3, e4⟩ := c_beside (b := b) (x := x) g2 k1 (by omega) (by omega) k3 (by omega)
          have r2' := Rw.ex (g3.trans e3 (by omega) (by omega)) (show R ≤ R + 1 + 1 by omega) r2
          obtain ⟨kq, q1, q2⟩ := ce_rest e2 r2'
          have q2 : Rw (b + 1) m2 (R + 1 + 1) kq q := q2
          obtain ⟨m3, w1, w2, w3, w4, w5⟩ := ce_row (x := (s_link A a d).length) e2 (by omega) q2
          rw [s_put2, if_pos ⟨c0, c1⟩]
          refine ⟨((R + 1 + 1 : Nat) : Int), m3, R + 1 + 1 + 1, ?_, by omega, fun _ => by omega, fun e => by omega, w2, ?_, ((g4.trans e4).trans (Fl.of_Fr w5)).cast (by simp), (g3.trans e3 (by omega) (by omega)).trans (w4.mono (by simp; omega) (Nat.le_refl _)) (Nat.le_refl _) (by omega)⟩
          · rw [start, g1, hp_b, e1, hp_b, q1, hp_b, w1, hp_b]
            rfl
          · show Rw (b + 1) m3 (R + 1 + 1 + 1) _ ((A.length + 1) :: q)
            rw [← k6]
            exact w3
        · rw [hp_eq_f (by omega) (by omega) (by omega)] at start
          exact viaJ (fun ⟨_, a', b', l, e, e2⟩ => by cases e; exact c1 e2) start
  · rw [hp_eq_f (by omega) (by decide) (by omega)] at start
    exact viaJ (fun e => c0 e.1) start
