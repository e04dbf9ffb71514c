/-! calls on both: without a put; hands -/
section
variable {S : hS} {r : Nat} {m : hMem}
theorem turn_any {vs : List hVr} {m : hMem} (ho : Os vs) (hJ : JR vs m) {j : Nat} {v : hVr} (hv : vs[j]? = some v) (hl : j < vs.length) : ∃ tt, f_X3_turnOf (v_job (vs.take j) v) m = some (tt, m) ∧ (v_how v = 1 → tt = (v_tu v : Int)) := by
  have et : vs.take (j + 1) = vs.take j ++ [v] := by rw [List.take_add_one, hv]; rfl
  have hos : Os (vs.take j ++ [v]) := by rw [← et]; exact os_take ho _
  obtain ⟨ho', h30, hOv⟩ := os_snoc.mp hos
  have tl : (vs.take j).length = j := by rw [List.length_take]; omega
  have vs30 := ho.1
  have of_jt : ∀ t, Jt vs t → f_X3_turnOf ((t % 30 : Nat) : Int) m = some ((t : Int), m) := fun t ht => by
    obtain ⟨-, c, h2, -⟩ := ht
    have := (j_turn hJ ho h2).1
    rw [show t / 30 * 30 + t % 30 = t by omega] at this
    exact this
  by_cases c1 : v_how v = 1
  · have hjt : Jt vs (v_tu v) := by
      rcases hOv with h0 | ⟨_, _, c2, c3, c4, -⟩ | ⟨c2, -⟩ | ⟨c3, -⟩
      · omega
      · have := ov_new (vs := vs.take j) (v := v) h30 c1 c2 ⟨c3, c4⟩
        rw [← et] at this
        exact jt_take _ this
      · omega
      · omega
    refine ⟨(v_tu v : Int), ?_, fun _ => rfl⟩
    unfold v_job
    rw [if_pos c1]
    exact of_jt _ hjt
  · by_cases c3 : v_how v = 3
    · obtain ⟨of, hne⟩ : v_of v < j ∧ 1 ≤ ((b_all 99 (vs.take j)).getD (v_of v) []).length := by
        rcases hOv with h0 | ⟨h1, -⟩ | ⟨h2, -⟩ | ⟨-, h4, h5⟩
        · omega
        · omega
        · omega
        · rw [tl] at h4; exact ⟨h4, h5⟩
      have mem0 : ((b_all 99 (vs.take j)).getD (v_of v) []).getD 0 0 ∈ (b_all 99 (vs.take j)).getD (v_of v) [] := getD_mem (by omega)
      have hjt := jt_take _ (((bo_all 99 (vs.take j) ho').1.2 (v_of v) (by omega)).2.2.1 _ mem0)
      refine ⟨((((b_all 99 (vs.take j)).getD (v_of v) []).getD 0 0 : Nat) : Int), ?_, fun h => absurd h c1⟩
      · unfold v_job
        rw [if_neg c1, if_pos c3]
        exact of_jt _ hjt
    · refine ⟨-1, ?_, fun h => absurd h c1⟩
      unfold v_job
      rw [if_neg c1, if_neg c3]
      exact j_turn1
theorem c_supL {vs : List hVr} {x w : Nat} (ho : Os vs) (hx : x < vs.length) (hw : w < vs.length) {vw : hVr} (hvw : vs[w]? = some vw) (hw1 : v_how vw = 1) : ∀ (d n v : Nat) (m : hMem), v + d = x + 1 → d < n → JR vs m → SR vs m → (∀ j, j < v → Bg 23 m j ((b_all w (vs.take v)).getD j [])) →
    ∃ m', L_X10_suppose_32 n (x : Int) (w : Int) (v : Int) m = some (1, m') ∧ (∀ j, j < x + 1 → Bg 23 m' j ((b_all w (vs.take (x + 1))).getD j [])) ∧ Fr 23 26 m m'
  | _, 0, _, _, _, hn, _, _, _ => by omega
  | 0, n + 1, v, m, hv, hn, hJ, hS, hB => by
    have h30 := ho.1
    have ev : v = x + 1 := by omega
    subst ev
    refine ⟨m, ?_, hB, Fr.refl _ _ _⟩
    show B_X10_suppose_32 (L_X10_suppose_32 n) (x : Int) (w : Int) ((x + 1 : Nat) : Int) m = _
    unfold B_X10_suppose_32
    rw [hp_lt_t (by omega) (by omega) (by omega), hp_zr1]
  | d + 1, n + 1, v, m, hv, hn, hJ, hS, hB => by
    have h30 := ho.1
    have hvl : v < vs.length := by omega
    obtain ⟨u, hu⟩ : ∃ u, vs[v]? = some u := ⟨_, List.getElem?_eq_getElem hvl⟩
    have et : vs.take (v + 1) = vs.take v ++ [u] := by rw [List.take_add_one, hu]; rfl
    have hos : Os (vs.take v ++ [u]) := by rw [← et]; exact os_take ho _
    obtain ⟨ho', -, hOv⟩ := os_snoc.mp hos
    obtain ⟨o1, o2, o3⟩ := ov_lt hOv
    have tl : (vs.take v).length = v := by rw [List.length_take]; omega
    rw [tl] at o1 o2
    obtain ⟨s1, s2, s3, s4⟩ := s_get hS h30 hu
    have next : ∀ m1, Fr 23 26 m m1 → (∀ j, j < v + 1 → Bg 23 m1 j ((b_all w (vs.take (v + 1))).getD j [])) → ∃ m', L_X10_suppose_32 n (x : Int) (w : Int) ((v : Int) + 1) m1 = some (1, m') ∧ (∀ j, j < x + 1 → Bg 23 m' j ((b_all w (vs.take (x + 1))).getD j [])) ∧ Fr 23 26 m m' := fun m1 F1 B1 => by
      obtain ⟨m', a1, a2, a3⟩ := c_supL ho hx hw hvw hw1 d n (v + 1) m1 (by omega) (by omega) (hJ.eq (F1 11 (by omega)) (F1 12 (by omega)) (F1 13 (by omega))) (hS.eq (fun k k1 k2 => F1 k (by omega))) B1
      exact ⟨m', a1, a2, F1.trans a3⟩
    show ∃ m', B_X10_suppose_32 (L_X10_suppose_32 n) (x : Int) (w : Int) (v : Int) m = _ ∧ _
    unfold B_X10_suppose_32
    rw [hp_lt_f (by omega) (by omega) (by omega), hp_lt_t (by omega) (by decide) (by omega)]
    by_cases c : v = w
    · have hu' : vs[w]? = some u := by rw [← c]; exact hu
      have eu : u = vw := Option.some.inj (hu'.symm.trans hvw)
      have u1 : v_how u = 1 := by rw [eu]; exact hw1
      have of := o1 (by omega)
      rw [if_neg (by omega)] at s2
      obtain ⟨m1, a1, a2, a3⟩ := g_copy (b := 23) (v := v) (j := v_of u) (m := m) (by omega) (by omega) (by omega) (hB _ of) 0 (by omega)
      have F1 : Fr 23 26 m m1 := fun k hk => a3.1 k (by omega) (by omega)
      have eb : b_all w (vs.take (v + 1)) = b_all w (vs.take v) ++ [b_step w (b_all w (vs.take v)) u] := by rw [et]; exact b_snoc w _ _
      have bl : (b_all w (vs.take v)).length = v := by rw [b_len, tl]
      have es : b_step w (b_all w (vs.take v)) u = (b_all w (vs.take v)).getD (v_of u) [] := by unfold b_step; rw [if_pos u1, if_pos (by omega)]
      rw [hp_eq_t (by omega) (by omega) (by omega), s2, hp_b]
      have a1 : f_X0_copy 23 (v : Int) (v_of u : Int) 0 m = some (0, m1) := a1
      rw [a1, hp_b, hp_set]
      refine next m1 F1 (fun j hj => ?_)
      rw [eb]
      by_cases cj : j < v
      · rw [getD_app _ _ _ (by omega)]
        exact (hB j cj).fg a3 (by omega)
      · have ej : j = v := by omega
        have z := getD_snoc (b_all w (vs.take v)) (b_step w (b_all w (vs.take v)) u) []
        rw [bl] at z
        rw [ej, z, es]
        exact a2
    · obtain ⟨tt, t1, t2⟩ := turn_any ho hJ hu hvl
      have ga : Ga u (v_how u : Int) (if v_how u = 0 then -1 else (v_of u : Int)) (if v_how u = 2 then (v_ot u : Int) else -1) tt := ⟨rfl, fun h => by rw [if_neg h], fun h => by rw [if_pos h], t2⟩
      obtain ⟨m1, a1, a2, a3⟩ := g_make (b := 23) (w := w) (m := m) hos (fun j hj => by rw [tl] at hj; exact hB j hj) (fun _ => by omega) ga
      rw [tl] at a1 a3
      have F1 : Fr 23 26 m m1 := fun k hk => a3.1 k (by omega) (by omega)
      rw [hp_eq_f (by omega) (by omega) (by omega), s1, hp_b, s2, hp_b, s3, hp_b, s4, hp_b, t1, hp_b, a1, hp_b, hp_set]
      refine next m1 F1 (fun j hj => ?_)
      rw [et]
      exact a2 j (by rw [List.length_append, tl]; exact hj)
def bagw (w : Nat) (vs : List hVr) (j : Nat) : List Nat := (b_all w vs).getD j []
theorem bagw_ok (hA : AW S) (w : Nat) {j : Nat} (hj : j < (s_vs S).length) : So (bagw w (s_vs S) j) ∧ (bagw w (s_vs S) j).length ≤ 24 := by
  obtain ⟨b1, b2, -⟩ := (bo_all w (s_vs S) hA.1.1).1.2 j hj
  exact ⟨b1, b2⟩
theorem c_suppose (hA : AW S) (hC : CI S r m) {i w : Nat} (hi : i < (s_vs S).length) (hw : w < (s_vs S).length) {vw : hVr} (hvw : (s_vs S)[w]? = some vw) (hw1 : v_how vw = 1) : ∃ m', f_X10_suppose (i : Int) (w : Int) m = some (1, m') ∧ Bg 23 m' i (bagw w (s_vs S) i) ∧ CI S r m' ∧ Fr 23 26 m m' := by
  have h30 := hA.1.1.1
  obtain ⟨m', a1, a2, a3⟩ := c_supL hA.1.1 hi hw hvw hw1 (i + 1) hv_FU 0 m (by omega) (fu_lt (by omega)) (ci_jobs hC) (ci_story hC) (fun j hj => by omega)
  refine ⟨m', ?_, ?_, hC.eq (fun k k1 k2 k3 k4 => a3 k (by omega)), a3⟩
  · unfold f_X10_suppose
    rw [c_yes hA hC (by omega) ⟨by omega, by omega⟩, c_yes hA hC (by omega) ⟨by omega, by omega⟩, (s_get (ci_story hC) h30 hvw).1, hp_b, hp_eq_t (by omega) (by decide) (by omega)]
    exact a1
  · have := a2 i (by omega)
    rw [b_px w (s_vs S) (i + 1) (by omega) i (by omega)] at this
    exact this
/-- no version, no put -/
theorem sup_no (hA : AW S) (hC : CI S r m) {x y : Int} (hx : hv_R32 x) (hy : hv_R32 y) (h : ¬ ∃ i w vw, x = ((i : Nat) : Int) ∧ i < (s_vs S).length ∧ y = ((w : Nat) : Int) ∧ (s_vs S)[w]? = some vw ∧ v_how vw = 1) : f_X10_suppose x y m = some (0, m) ∧ ∀ m, RI S m → f_X11_isPut x y m = some (0, m) := by
  have h30 := hA.1.1.1
  by_cases c : 0 ≤ x ∧ x < ((s_vs S).length : Int)
  · by_cases d : 0 ≤ y ∧ y < ((s_vs S).length : Int)
    · obtain ⟨i, ex, hi⟩ := is_nat c
      obtain ⟨w, ey, hw⟩ := is_nat d
      obtain ⟨vw, hvw⟩ : ∃ v, (s_vs S)[w]? = some v := ⟨_, List.getElem?_eq_getElem hw⟩
      have n1 : v_how vw ≠ 1 := fun e => h ⟨i, w, vw, ex, hi, ey, hvw, e⟩
      have et : (s_vs S).take (w + 1) = (s_vs S).take w ++ [vw] := by rw [List.take_add_one, hvw]; rfl
      have hos : Os ((s_vs S).take w ++ [vw]) := by rw [← et]; exact os_take hA.1.1 _
      have o3 := (ov_lt (os_snoc.mp hos).2.2).2.2
      refine ⟨?_, fun m hm => ?_⟩
      · unfold f_X10_suppose
        rw [c_yes hA hC hx c, c_yes hA hC hy d, ey, (s_get (ci_story hC) h30 hvw).1, hp_b, hp_eq_f (by omega) (by decide) (by omega), hp_zr0]
      · unfold f_X11_isPut
        rw [r_yes hA hm hx c, r_yes hA hm hy d, ey, hp_ald (by omega) (by omega), show ((6 : Int) + (w : Int)).toNat = 6 + w by omega, (hm.2.2.2.2.1.2.2.1 w vw hvw).1, hp_eq_f (by omega) (by decide) (by omega), hp_zr0]
    · refine ⟨?_, fun m hm => ?_⟩
      · unfold f_X10_suppose; rw [c_yes hA hC hx c, c_not hA hC hy d, hp_zr0]
      · unfold f_X11_isPut; rw [r_yes hA hm hx c, r_not hA hm hy d, hp_zr0]
  · refine ⟨?_, fun m hm => ?_⟩
    · unfold f_X10_suppose; rw [c_not hA hC hx c, hp_zr0]
    · unfold f_X11_isPut; rw [r_not hA hm hx c, hp_zr0]
theorem r_isPut1 (hA : AW S) (hm : RI S m) {i w : Nat} (hi : i < (s_vs S).length) {vw : hVr} (hvw : (s_vs S)[w]? = some vw) (hw1 : v_how vw = 1) (hw : w < (s_vs S).length) : f_X11_isPut (i : Int) (w : Int) m = some (1, m) := by
  have h30 := hA.1.1.1
  unfold f_X11_isPut
  rw [r_yes hA hm (by omega) ⟨by omega, by omega⟩, r_yes hA hm (by omega) ⟨by omega, by omega⟩, hp_ald (by omega) (by omega), show ((6 : Int) + (w : Int)).toNat = 6 + w by omega, (hm.2.2.2.2.1.2.2.1 w vw hvw).1, hp_eq_t (by omega) (by decide) (by omega), hp_zr1]
theorem r_mkW (hA : AW S) (hm : RI S m) {w : Nat} (hw : w < (s_vs S).length) : ∃ m' G, f_X11_makesAll (s_la S : Int) (w : Int) m = some (0, m') ∧ Rt (s_la S) w (s_vs S) G m' ∧ FA m m' := by
  have h30 := hA.1.1.1
  obtain ⟨m', G, a1, a2, a3⟩ := r_makes_all (law := s_la S) (w := w) (vs := s_vs S) (m := m) hA.1.law hA.1.1 hm.2.2.2.2.1 (x2 := (w : Int)) (by omega) (fun v hv => by omega)
  exact ⟨m', G, a1, a2, a3.fa⟩
theorem op_without (hA : AW S) (hC : CI S r m) (hR : RI S m) {x y : Int} (hx : hv_R32 x) (hy : hv_R32 y) : Res (f_X10_without x y) (f_X11_without x y) r m := by
  have h30 := hA.1.1.1
  by_cases c : ∃ i w vw, x = ((i : Nat) : Int) ∧ i < (s_vs S).length ∧ y = ((w : Nat) : Int) ∧ (s_vs S)[w]? = some vw ∧ v_how vw = 1
  · obtain ⟨i, w, vw, ex, hi, ey, hvw, hw1⟩ := c
    subst ex
    subst ey
    have hw : w < (s_vs S).length := by
      rcases Nat.lt_or_ge w (s_vs S).length with c | c
      · exact c
      · rw [List.getElem?_eq_none c] at hvw; cases hvw
    obtain ⟨b1, b2⟩ := bagw_ok hA w hi
    obtain ⟨m1, a1, a2, a3, a4⟩ := c_suppose hA hC hi hw hvw hw1
    refine ask (v := if bagw w (s_vs S) i = [] then -1 else (((bagw w (s_vs S) i).getD 0 0 % 30 : Nat) : Int)) hA hR ⟨m1, r, ?_, a3, fun k hk => a4 k (by omega), by omega⟩ (fun m hm => ?_) (by split <;> omega)
    · unfold f_X10_without
      rw [a1, hp_b, hp_eq_f (by decide) (by decide) (by decide), g_jobAt a2 (by omega) (by decide), hp_b]
      by_cases cb : bagw w (s_vs S) i = []
      · rw [if_pos cb, if_neg (by rw [cb]; simp)]; rfl
      · have := ne_pos cb
        rw [if_neg cb, if_pos (by omega)]; rfl
    · obtain ⟨m2, G, c1, c2, c3⟩ := r_mkW hA hm hw
      have hh := hi_all hA.1.law w (s_vs S) hA.1.1
      refine ⟨m2, ?_, c3⟩
      unfold f_X11_without
      rw [r_isPut1 hA hm hi hvw hw1 hw, hp_b, hp_eq_f (by decide) (by decide) (by decide), hp_ald (by decide) (by decide), show m 66 (0 : Int).toNat = (s_la S : Int) from hm.1, c1, hp_b, hp_ald (by omega) (by omega), Int.toNat_natCast, r_leastOf hh.1 c2.1 (c2.2.2.2 i hi).1 (hh.2.2.2.2 i hi).1 b1, hp_b]; rfl
  · obtain ⟨s1, s2⟩ := sup_no hA hC hx hy c
    refine ask (v := -2) hA hR (same_c hC ?_) (same_r (fun m hm => ?_)) (by decide)
    · unfold f_X10_without; rw [s1, hp_b, hp_eq_t (by decide) (by decide) rfl]; rfl
    · unfold f_X11_without; rw [s2 m hm, hp_b, hp_eq_t (by decide) (by decide) rfl]; rfl
theorem op_left (hA : AW S) (hC : CI S r m) (hR : RI S m) {x y : Int} (hx : hv_R32 x) (hy : hv_R32 y) : Res (f_X10_left x y) (f_X11_left x y) r m := by
  have h30 := hA.1.1.1
  by_cases c : ∃ i w vw, x = ((i : Nat) : Int) ∧ i < (s_vs S).length ∧ y = ((w : Nat) : Int) ∧ (s_vs S)[w]? = some vw ∧ v_how vw = 1
  · obtain ⟨i, w, vw, ex, hi, ey, hvw, hw1⟩ := c
    subst ex
    subst ey
    have hw : w < (s_vs S).length := by
      rcases Nat.lt_or_ge w (s_vs S).length with c | c
      · exact c
      · rw [List.getElem?_eq_none c] at hvw; cases hvw
    obtain ⟨b1, b2⟩ := bagw_ok hA w hi
    obtain ⟨m1, a1, a2, a3, a4⟩ := c_suppose hA hC hi hw hvw hw1
    refine ask (v := ((bagw w (s_vs S) i).length : Int)) hA hR ⟨m1, r, ?_, a3, fun k hk => a4 k (by omega), by omega⟩ (fun m hm => ?_) (by omega)
    · unfold f_X10_left
      rw [a1, hp_b, hp_eq_f (by decide) (by decide) (by decide), g_size a2 (by omega), hp_b]; rfl
    · obtain ⟨m2, G, c1, c2, c3⟩ := r_mkW hA hm hw
      have hh := hi_all hA.1.law w (s_vs S) hA.1.1
      obtain ⟨m3, d1, d2, d3⟩ := r_countsAll hh.1 c2.1 (c2.2.2.2 i hi).1 (hh.2.2.2.2 i hi).1
      refine ⟨m3, ?_, c3.trans (FA.of (fun k hk => d2 k (by omega)))⟩
      unfold f_X11_left
      rw [r_isPut1 hA hm hi hvw hw1 hw, hp_b, hp_eq_f (by decide) (by decide) (by decide), hp_ald (by decide) (by decide), show m 66 (0 : Int).toNat = (s_la S : Int) from hm.1, c1, hp_b, hp_ald (by omega) (by omega), Int.toNat_natCast, d1, hp_b]; rfl
  · obtain ⟨s1, s2⟩ := sup_no hA hC hx hy c
    refine ask (v := -2) hA hR (same_c hC ?_) (same_r (fun m hm => ?_)) (by decide)
    · unfold f_X10_left; rw [s1, hp_b, hp_eq_t (by decide) (by decide) rfl]; rfl
    · unfold f_X11_left; rw [s2 m hm, hp_b, hp_eq_t (by decide) (by decide) rfl]; rfl
/-- hands are told where there is a version -/
theorem ha_ok (hA : AW S) {j : Nat} (hj : j < (s_vs S).length) : 1 ≤ s_ha S ∧ s_ha S ≤ 8 := by
  obtain ⟨⟨v1, v2, v3, v4, v5, v6, v7, v8, -⟩, -⟩ := hA
  have : s_li S ≠ 0 := fun e => by rw [v7 e] at hj; simp at hj
  have := v8 (by omega)
  omega
theorem ci_work (hA : AW S) (hC : CI S r m) {j H : Nat} (hj : j < (s_vs S).length) (H1 : 1 ≤ H) (H8 : H ≤ 8) : ∃ m', f_X5_work 20 (j : Int) (H : Int) m = some (0, m') ∧ m' 61 4 = ((bag (s_vs S) j).length : Int) ∧ m' 61 5 = ((st_all (s_vs S) H (bag (s_vs S) j)).1 : Int) ∧ m' 61 6 = ((st_all (s_vs S) H (bag (s_vs S) j)).2.1 : Int) ∧ m' 61 7 = ((st_all (s_vs S) H (bag (s_vs S) j)).2.2.1 : Int) ∧ m' 61 8 = ((st_all (s_vs S) H (bag (s_vs S) j)).2.2.2 : Int) ∧ (∀ i, i < (bag (s_vs S) j).length → m' 63 i = (((ws_all (s_vs S) H (bag (s_vs S) j)).getD i (0, 0)).1 : Int) ∧ m' 64 i = (((ws_all (s_vs S) H (bag (s_vs S) j)).getD i (0, 0)).2 : Int)) ∧ CI S r m' ∧ FC m m' := by
  have h30 := hA.1.1.1
  obtain ⟨m', a1, a2, a3, a4, a5, a6, a7, a8⟩ := c_work hA.1.1 (by omega) H1 H8 (ci_jobs hC) (ci_bag hC hj) (bag_ok hA.1 hj).2.2
  exact ⟨m', a1, a2, a3, a4, a5, a6, a7, hC.eq (fun k hk _ _ _ => a8 k (by omega)), fun k hk => a8 k (by omega)⟩
theorem op_done (hA : AW S) (hC : CI S r m) (hR : RI S m) {x y : Int} (hx : hv_R32 x) (hy : hv_R32 y) : Res (f_X10_done x y) (f_X11_done x y) r m := by
  have h30 := hA.1.1.1
  by_cases c : 0 ≤ x ∧ x < ((s_vs S).length : Int)
  · obtain ⟨j, ex, hj⟩ := is_nat c
    subst ex
    obtain ⟨H1, H8⟩ := ha_ok hA hj
    obtain ⟨b1, b2, b3⟩ := bag_ok hA.1 hj
    obtain ⟨m1, a1, a2, a3, a4, a5, a6, a7, a8, a9⟩ := ci_work hA hC hj H1 H8
    have i2 := hC.2.1
    have sl := st_le (s_vs S) (s_ha S) b2
    by_cases cy : 0 ≤ y ∧ y ≤ 3
    · refine ask (v := (sel4 y (st_all (s_vs S) (s_ha S) (bag (s_vs S) j)) : Int)) hA hR ⟨m1, r, ?_, a8, a9, by omega⟩ (fun m hm => ?_) ?_
      · unfold f_X10_done f_X5_last f_X5_late f_X5_lateTogether f_X5_lateMost
        rw [c_yes hA hC hx c, i2, a1, hp_b, a3, a4, a5, a6, sw4 hy]
        unfold sel4
        by_cases c0 : y = 0
        · rw [if_pos c0, if_pos c0]; rfl
        · rw [if_neg c0, if_neg c0]
          by_cases c1 : y = 1
          · rw [if_pos c1, if_pos c1]; rfl
          · rw [if_neg c1, if_neg c1]
            by_cases c2 : y = 2
            · rw [if_pos c2, if_pos c2]; rfl
            · rw [if_neg c2, if_neg c2, if_pos (by omega)]; rfl
      · obtain ⟨m2, d1, d2, d3⟩ := r_does hA.1 hm hj H1 H8
        have g := r_doneL (vs := s_vs S) (l := bag (s_vs S) j) (ws := ws_all (s_vs S) (s_ha S) (bag (s_vs S) j)) (x := y) (m := m2) hy h30 b3 d2.1 (d3.ri hm).2.2.2.2.1 (fun i hi => (d2.2 i hi).2) (fun w hw => by
          have := wk_le (hands := s_ha S) (tm_99 (s_vs S)) (bag (s_vs S) j) (fun _ => 0) 0 (fun _ => Nat.le_refl _) w hw
          omega) (bag (s_vs S) j) [] (ws_all (s_vs S) (s_ha S) (bag (s_vs S) j)) [] hv_FU (0, 0, 0, 0) (fu_lt (by omega)) rfl rfl rfl (wk_len _ _ _ _) (Nat.zero_le _) (Nat.zero_le _)
        refine ⟨m2, ?_, d3⟩
        unfold f_X11_done
        rw [r_yes hA hm hx c, hp_rg hy, fe_in hy (by decide) (by decide), hp_b, if_pos cy, hp_eq_f (by decide) (by decide) (by decide), hp_ald (by decide) (by decide), show m 66 (1 : Int).toNat = (s_ha S : Int) from hm.2.1, d1, hp_b]
        exact g
      · unfold sel4
        split
        · omega
        · split
          · omega
          · split <;> omega
    · refine ask (v := -2) hA hR ⟨m1, r, ?_, a8, a9, by omega⟩ (same_r (fun m hm => ?_)) (by decide)
      · unfold f_X10_done
        rw [c_yes hA hC hx c, i2, a1, hp_b, sw4 hy, if_neg (by omega), if_neg (by omega), if_neg (by omega), if_neg (by omega)]; rfl
      · unfold f_X11_done
        rw [r_yes hA hm hx c, hp_rg hy, fe_in hy (by decide) (by decide), hp_b, if_neg cy, hp_eq_t (by decide) (by decide) rfl]; rfl
  · refine ask (v := -2) hA hR (same_c hC ?_) (same_r (fun m hm => ?_)) (by decide)
    · unfold f_X10_done; rw [c_not hA hC hx c]; rfl
    · unfold f_X11_done; rw [r_not hA hm hx c]; rfl
theorem ws_h (vs : List hVr) {H : Nat} (H1 : 1 ≤ H) : ∀ (l : List Nat) (fr : Nat → Nat) (i : Nat), ((wkL (tmv vs) H l fr).getD i (0, 0)).1 ≤ H
  | [], _, i => by rw [getD_out _ _ (Nat.zero_le _)]; exact Nat.zero_le _
  | t :: l, fr, 0 => by show w_b fr H ≤ H; have := wb_lt fr H1; omega
  | t :: l, fr, i + 1 => ws_h vs H1 l _ i
theorem op_hand (hA : AW S) (hC : CI S r m) (hR : RI S m) {x y : Int} (hx : hv_R32 x) (hy : hv_R32 y) : Res (f_X10_hand x y) (f_X11_hand x y) r m := by
  have h30 := hA.1.1.1
  by_cases c : 0 ≤ x ∧ x < ((s_vs S).length : Int)
  · obtain ⟨j, ex, hj⟩ := is_nat c
    subst ex
    by_cases cy : y < 0
    · refine ask (v := -2) hA hR (same_c hC ?_) (same_r (fun m hm => ?_)) (by decide)
      · unfold f_X10_hand; rw [c_yes hA hC hx c, hp_lt_t hy (by decide) cy]; rfl
      · unfold f_X11_hand; rw [r_yes hA hm hx c, hp_lt_t hy (by decide) cy]; rfl
    · obtain ⟨H1, H8⟩ := ha_ok hA hj
      obtain ⟨b1, b2, b3⟩ := bag_ok hA.1 hj
      obtain ⟨m1, a1, a2, a3, a4, a5, a6, a7, a8, a9⟩ := ci_work hA hC hj H1 H8
      have i2 := hC.2.1
      have wl := ws_h (s_vs S) H1 (bag (s_vs S) j) (fun _ => 0) y.toNat
      have wl : ((ws_all (s_vs S) (s_ha S) (bag (s_vs S) j)).getD y.toNat (0, 0)).1 ≤ s_ha S := wl
      refine ask (v := if y < ((bag (s_vs S) j).length : Int) then (((ws_all (s_vs S) (s_ha S) (bag (s_vs S) j)).getD y.toNat (0, 0)).1 : Int) else -1) hA hR ⟨m1, r, ?_, a8, a9, by omega⟩ (fun m hm => ?_) (by split <;> omega)
      · unfold f_X10_hand f_X5_handOf
        rw [c_yes hA hC hx c, hp_lt_f hy (by decide) (by omega), i2, a1, hp_b, a2]
        by_cases cl : y < ((bag (s_vs S) j).length : Int)
        · rw [if_pos cl, hp_lt_t hy (by omega) cl, fe_at' (by omega) (by omega) (by omega), hp_b, (a7 y.toNat (by omega)).1]; rfl
        · rw [if_neg cl, hp_lt_f hy (by omega) (by omega)]; rfl
      · obtain ⟨m2, d1, d2, d3⟩ := r_does hA.1 hm hj H1 H8
        refine ⟨m2, ?_, d3⟩
        unfold f_X11_hand
        rw [r_yes hA hm hx c, hp_lt_f hy (by decide) (by omega), hp_ald (by decide) (by decide), show m 66 (1 : Int).toNat = (s_ha S : Int) from hm.2.1, d1, hp_b]
        by_cases cl : y < ((bag (s_vs S) j).length : Int)
        · rw [if_pos cl, hp_lt_t hy (by omega) cl, hp_ald (by omega) (by omega), (d2.2 y.toNat (by omega)).1]; rfl
        · rw [if_neg cl, hp_lt_f hy (by omega) (by omega)]; rfl
  · refine ask (v := -2) hA hR (same_c hC ?_) (same_r (fun m hm => ?_)) (by decide)
    · unfold f_X10_hand; rw [c_not hA hC hx c]; rfl
    · unfold f_X11_hand; rw [r_not hA hm hx c]; rfl
theorem op_ends (hA : AW S) (hC : CI S r m) (hR : RI S m) {x y : Int} (hx : hv_R32 x) (hy : hv_R32 y) : Res (f_X10_ends x y) (f_X11_ends x y) r m := by
  have h30 := hA.1.1.1
  by_cases c : 0 ≤ x ∧ x < ((s_vs S).length : Int)
  · obtain ⟨j, ex, hj⟩ := is_nat c
    subst ex
    by_cases cy : y < 0
    · refine ask (v := -2) hA hR (same_c hC ?_) (same_r (fun m hm => ?_)) (by decide)
      · unfold f_X10_ends; rw [c_yes hA hC hx c, hp_lt_t hy (by decide) cy]; rfl
      · unfold f_X11_ends; rw [r_yes hA hm hx c, hp_lt_t hy (by decide) cy]; rfl
    · obtain ⟨H1, H8⟩ := ha_ok hA hj
      obtain ⟨b1, b2, b3⟩ := bag_ok hA.1 hj
      obtain ⟨m1, a1, a2, a3, a4, a5, a6, a7, a8, a9⟩ := ci_work hA hC hj H1 H8
      have i2 := hC.2.1
      have wl := ws_le (s_vs S) (s_ha S) b2 y.toNat
      refine ask (v := if y < ((bag (s_vs S) j).length : Int) then (((ws_all (s_vs S) (s_ha S) (bag (s_vs S) j)).getD y.toNat (0, 0)).2 : Int) else -1) hA hR ⟨m1, r, ?_, a8, a9, by omega⟩ (fun m hm => ?_) (by split <;> omega)
      · unfold f_X10_ends f_X5_endOf
        rw [c_yes hA hC hx c, hp_lt_f hy (by decide) (by omega), i2, a1, hp_b, a2]
        by_cases cl : y < ((bag (s_vs S) j).length : Int)
        · rw [if_pos cl, hp_lt_t hy (by omega) cl, fe_at' (by omega) (by omega) (by omega), hp_b, (a7 y.toNat (by omega)).2]; rfl
        · rw [if_neg cl, hp_lt_f hy (by omega) (by omega)]; rfl
      · obtain ⟨m2, d1, d2, d3⟩ := r_does hA.1 hm hj H1 H8
        refine ⟨m2, ?_, d3⟩
        unfold f_X11_ends
        rw [r_yes hA hm hx c, hp_lt_f hy (by decide) (by omega), hp_ald (by decide) (by decide), show m 66 (1 : Int).toNat = (s_ha S : Int) from hm.2.1, d1, hp_b]
        by_cases cl : y < ((bag (s_vs S) j).length : Int)
        · rw [if_pos cl, hp_lt_t hy (by omega) cl, hp_ald (by omega) (by omega), (d2.2 y.toNat (by omega)).2]; rfl
        · rw [if_neg cl, hp_lt_f hy (by omega) (by omega)]; rfl
  · refine ask (v := -2) hA hR (same_c hC ?_) (same_r (fun m hm => ?_)) (by decide)
    · unfold f_X10_ends; rw [c_not hA hC hx c]; rfl
    · unfold f_X11_ends; rw [r_not hA hm hx c]; rfl
end
