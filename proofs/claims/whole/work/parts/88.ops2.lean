/-! calls on both: versions, jobs, bags, trees -/
section
variable {S : hS} {r : Nat} {m : hMem}
theorem is_nat {x : Int} {n : Nat} (h : 0 ≤ x ∧ x < (n : Int)) : ∃ j : Nat, x = (j : Int) ∧ j < n := ⟨x.toNat, by omega, by omega⟩
theorem sw4 {x : Int} (hx : hv_R32 x) {a0 a1 a2 a3 d : hRs} : hv_tsw x 0 [a0, a1, a2, a3] d = (if x = 0 then a0 else if x = 1 then a1 else if x = 2 then a2 else if x = 3 then a3 else d) := by
  by_cases c0 : x = 0
  · rw [hp_tsw (i := 0) hx (by omega) (by simp), if_pos c0, gd0]
  · rw [if_neg c0]
    by_cases c1 : x = 1
    · rw [hp_tsw (i := 1) hx (by omega) (by simp), if_pos c1, gd1]
    · rw [if_neg c1]
      by_cases c2 : x = 2
      · rw [hp_tsw (i := 2) hx (by omega) (by simp), if_pos c2, gd2]
      · rw [if_neg c2]
        by_cases c3 : x = 3
        · rw [hp_tsw (i := 3) hx (by omega) (by simp), if_pos c3, gd3]
        · rw [if_neg c3, hp_tsw_d hx (by simp; omega)]
theorem r_jobOf (hA : AW S) (h : RI S m) {j : Nat} {v : hVr} (hv : (s_vs S)[j]? = some v) : ∃ m', f_X11_jobOf (j : Int) m = some (v_job ((s_vs S).take j) v, m') ∧ FA m m' := by
  have h30 := hA.1.1.1
  have hj : j < (s_vs S).length := by
    rcases Nat.lt_or_ge j (s_vs S).length with c | c
    · exact c
    · rw [List.getElem?_eq_none c] at hv; cases hv
  obtain ⟨M1, M2, M3, M4, -⟩ := h.2.2.2.2.1.2.2.1 j v hv
  have et : (s_vs S).take (j + 1) = (s_vs S).take j ++ [v] := by rw [List.take_add_one, hv]; rfl
  have hos : Os ((s_vs S).take j ++ [v]) := by rw [← et]; exact os_take hA.1.1 _
  obtain ⟨-, -, hOv⟩ := os_snoc.mp hos
  have tl : ((s_vs S).take j).length = j := by rw [List.length_take]; omega
  have e6 : ((6 : Int) + (j : Int)).toNat = 6 + j := by omega
  have e36 : ((36 : Int) + (j : Int)).toNat = 36 + j := by omega
  have e96 : ((96 : Int) + (j : Int)).toNat = 96 + j := by omega
  have hl3 := (ov_lt hOv).2.2
  unfold f_X11_jobOf
  rw [hp_ald (by omega) (by omega), e6, M1]
  by_cases c3 : v_how v = 3
  · obtain ⟨of, hne⟩ : v_of v < j ∧ 1 ≤ ((b_all 99 ((s_vs S).take j)).getD (v_of v) []).length := by
      rcases hOv with h0 | ⟨h1, -⟩ | ⟨h2, -⟩ | ⟨-, h4, h5⟩
      · omega
      · omega
      · omega
      · rw [tl] at h4; exact ⟨h4, h5⟩
    have ebag : (b_all 99 ((s_vs S).take j)).getD (v_of v) [] = bag (s_vs S) (v_of v) := b_px 99 (s_vs S) j (by omega) (v_of v) of
    obtain ⟨m1, G, a1, a2, a3⟩ := r_mkAll hA.1 h hA.1.law
    have ofl : v_of v < (s_vs S).length := by omega
    obtain ⟨t1, t2, t3⟩ := a2.tb hA.1.1 hA.1.law ofl
    obtain ⟨b1, b2, b3⟩ := bag_ok hA.1 ofl
    have lo := r_leastOf t3 a2.1 t1 t2 b1
    rw [ebag] at hne
    have bne : bag (s_vs S) (v_of v) ≠ [] := fun e => by rw [e] at hne; simp at hne
    rw [if_neg bne] at lo
    obtain ⟨q, rq, gq⟩ : ∃ q : Nat, m1 77 (v_of v) = (q : Int) ∧ (g_H G)[q]? = some (h_top (s_la S) (s_vs S) (v_of v)) := by
      rcases t1 with ⟨e, _⟩ | e
      · exact absurd ((t2.zero t3).mp e) bne
      · exact e
    have q8 := a2.1.h8 gq
    have M2 : m 66 (36 + j) = (v_of v : Int) := by rw [M2, if_neg (by omega)]
    refine ⟨m1, ?_, a3⟩
    rw [hp_eq_t (by omega) (by decide) (by omega), hp_ald (by decide) (by decide), show m 66 (0 : Int).toNat = (s_la S : Int) from h.1, a1, hp_b, hp_ald (by omega) (by omega), e36, a3.1 66 (by omega) (by omega), M2, hp_ald (by omega) (by omega), Int.toNat_natCast, rq, hp_ald (by omega) (by omega), Int.toNat_natCast]
    unfold f_X11_leastOf at lo
    rw [rq, hp_lt_f (by omega) (by decide) (by omega), hp_ald (by omega) (by omega), Int.toNat_natCast] at lo
    rw [lo]
    unfold v_job
    rw [if_neg (by omega), if_pos c3, ebag]
  · refine ⟨m, ?_, FA.refl m⟩
    rw [hp_eq_f (by omega) (by decide) (by omega), hp_ald (by omega) (by omega), e96, M4]
    unfold v_job
    by_cases c1 : v_how v = 1
    · rw [if_pos c1, if_pos c1]; rfl
    · rw [if_neg c1, if_neg c1, if_neg c3]; rfl
theorem vj_r {vs : List hVr} {v : hVr} : -1 ≤ v_job vs v ∧ v_job vs v < 30 := by
  unfold v_job
  split
  · omega
  · split <;> omega
theorem op_version (hA : AW S) (hC : CI S r m) (hR : RI S m) {x y : Int} (hx : hv_R32 x) (hy : hv_R32 y) : Res (f_X10_version x y) (f_X11_version x y) r m := by
  have h30 := hA.1.1.1
  by_cases c : 0 ≤ x ∧ x < ((s_vs S).length : Int)
  · obtain ⟨j, ex, hj⟩ := is_nat c
    subst ex
    obtain ⟨v, hv⟩ : ∃ v, (s_vs S)[j]? = some v := ⟨_, List.getElem?_eq_getElem hj⟩
    obtain ⟨s1, s2, s3, s4⟩ := s_get (ci_story hC) h30 hv
    have et : (s_vs S).take (j + 1) = (s_vs S).take j ++ [v] := by rw [List.take_add_one, hv]; rfl
    have hos : Os ((s_vs S).take j ++ [v]) := by rw [← et]; exact os_take hA.1.1 _
    obtain ⟨-, -, hOv⟩ := os_snoc.mp hos
    obtain ⟨o1, o2, o3⟩ := ov_lt hOv
    have tl : ((s_vs S).take j).length = j := by rw [List.length_take]; omega
    rw [tl] at o1 o2
    have vj := vj_r (vs := (s_vs S).take j) (v := v)
    obtain ⟨a1, ha1⟩ : ∃ a1, a1 = (if v_how v = 0 then -1 else (v_of v : Int)) := ⟨_, rfl⟩
    obtain ⟨a2, ha2⟩ : ∃ a2, a2 = (if v_how v = 2 then (v_ot v : Int) else -1) := ⟨_, rfl⟩
    have a1r : -1 ≤ a1 ∧ a1 < 30 := by rw [ha1]; split <;> rename_i q; omega; have := o1 q; omega
    have a2r : -1 ≤ a2 ∧ a2 < 30 := by rw [ha2]; split <;> rename_i q; have := o2 q; omega; omega
    rw [← ha1] at s2
    rw [← ha2] at s3
    refine ask (v := if y = 0 then (v_how v : Int) else if y = 1 then a1 else if y = 2 then a2 else if y = 3 then v_job ((s_vs S).take j) v else -2) hA hR (same_c hC ?_) (fun m hm => ?_) (by split <;> (try split) <;> (try split) <;> (try split) <;> omega)
    · unfold f_X10_version
      rw [c_yes hA hC hx c, s1, hp_b, s2, hp_b, s3, hp_b, s4, hp_b, sw4 hy]
      split
      · rfl
      · split
        · rfl
        · split
          · rfl
          · split <;> rfl
    · obtain ⟨m', j1, j2⟩ := r_jobOf hA hm hv
      obtain ⟨M1, M2, M3, -⟩ := hm.2.2.2.2.1.2.2.1 j v hv
      rw [← ha1] at M2
      rw [← ha2] at M3
      have e6 : ((6 : Int) + (j : Int)).toNat = 6 + j := by omega
      have e36 : ((36 : Int) + (j : Int)).toNat = 36 + j := by omega
      have e66 : ((66 : Int) + (j : Int)).toNat = 66 + j := by omega
      unfold f_X11_version
      rw [r_yes hA hm hx c, hp_ald (by omega) (by omega), e6, M1, hp_ald (by omega) (by omega), e36, M2, hp_ald (by omega) (by omega), e66, M3, j1, hp_b, sw4 hy]
      by_cases c0 : y = 0
      · rw [if_pos c0, if_pos c0]; exact ⟨m, rfl, FA.refl m⟩
      · rw [if_neg c0, if_neg c0]
        by_cases c1 : y = 1
        · rw [if_pos c1, if_pos c1]; exact ⟨m, rfl, FA.refl m⟩
        · rw [if_neg c1, if_neg c1]
          by_cases c2 : y = 2
          · rw [if_pos c2, if_pos c2]; exact ⟨m, rfl, FA.refl m⟩
          · rw [if_neg c2, if_neg c2]
            by_cases c3 : y = 3
            · rw [if_pos c3, if_pos c3]; exact ⟨m', rfl, j2⟩
            · rw [if_neg c3, if_neg c3]; exact ⟨m, rfl, FA.refl m⟩
  · refine ask (v := -2) hA hR (same_c hC ?_) (same_r (fun m hm => ?_)) (by decide)
    · unfold f_X10_version; rw [c_not hA hC hx c]; rfl
    · unfold f_X11_version; rw [r_not hA hm hx c]; rfl
theorem c_hasJ (hA : AW S) (hC : CI S r m) {x : Int} (hx : hv_R32 x) : f_X3_has x m = some (if 0 ≤ x ∧ x < (nput (s_vs S) : Int) then 1 else 0, m) := by
  have h30 := hA.1.1.1
  have nn := nput_le (s_vs S)
  unfold f_X3_has
  rw [(ci_jobs hC).1]
  by_cases c0 : x < 0
  · rw [hp_lt_t hx (by decide) c0, if_neg (by omega), hp_zr0]
  · rw [hp_lt_f hx (by decide) (by omega)]
    by_cases c1 : x < (nput (s_vs S) : Int)
    · rw [hp_lt_t hx (by omega) c1, if_pos ⟨by omega, c1⟩, hp_zr1]
    · rw [hp_lt_f hx (by omega) (by omega), if_neg (by omega), hp_zr0]
theorem r_isJ (hA : AW S) (h : RI S m) {x : Int} (hx : hv_R32 x) : f_X11_isJob x m = some (if 0 ≤ x ∧ x < (nput (s_vs S) : Int) then 1 else 0, m) := by
  have h30 := hA.1.1.1
  have nn := nput_le (s_vs S)
  unfold f_X11_isJob
  rw [hp_rg hx, hp_ald (by decide) (by decide), show m 66 (3 : Int).toNat = (nput (s_vs S) : Int) from h.2.2.2.2.1.2.1, hp_rg (by omega), fe_in hx (by decide) (by omega), hp_b]
  by_cases c : 0 ≤ x ∧ x < (nput (s_vs S) : Int)
  · rw [if_pos c, if_pos (by omega), hp_zr1]
  · rw [if_neg c, if_neg (by omega), hp_zr0]
/-- jobs' keys and times -/
def Jb (vs : List hVr) : Prop := ∀ j k c : Nat, (jl vs)[j]? = some (k, c) → k ≤ 999 ∧ c ≤ 99
theorem jb_all (vs : List hVr) : Os vs → Jb vs := by
  refine snoc_ind (P := fun vs => Os vs → Jb vs) ?_ ?_ vs
  · intro _ j k c h; simp [jl] at h
  · intro vs v ih hos j k c h
    obtain ⟨ho, h30, hv⟩ := os_snoc.mp hos
    rw [jl_snoc] at h
    by_cases cj : j < (jl vs).length
    · rw [List.getElem?_append_left cj] at h
      exact ih ho j k c h
    · rw [List.getElem?_append_right (by omega)] at h
      by_cases c1 : v_how v = 1
      · rw [if_pos c1] at h
        obtain ⟨kk, hk, et, t1, t2⟩ : ∃ kk, kk ≤ 999 ∧ v_tu v = kk * 30 + nput vs ∧ 1 ≤ v_ti v ∧ v_ti v ≤ 99 := by
          rcases hv with h0 | ⟨_, _, ⟨kk, a, b⟩, c, d, _⟩ | ⟨h2, -⟩ | ⟨h3, -⟩
          · omega
          · exact ⟨kk, a, b, c, d⟩
          · omega
          · omega
        have nn := nput_le vs
        have e0 : j - (jl vs).length = 0 := by
          rcases Nat.eq_zero_or_pos (j - (jl vs).length) with z | z
          · exact z
          · rw [List.getElem?_eq_none (by rw [List.length_singleton]; omega)] at h; cases h
        rw [e0] at h
        simp at h
        omega
      · rw [if_neg c1] at h
        simp at h
theorem op_job (hA : AW S) (hC : CI S r m) (hR : RI S m) {x y : Int} (hx : hv_R32 x) (hy : hv_R32 y) : Res (f_X10_job x y) (f_X11_job x y) r m := by
  have h30 := hA.1.1.1
  have nn := nput_le (s_vs S)
  by_cases c : 0 ≤ x ∧ x < (nput (s_vs S) : Int)
  · obtain ⟨j, ex, hj⟩ := is_nat c
    subst ex
    obtain ⟨k, t, hk⟩ := jl_get hj
    obtain ⟨k9, t9⟩ := jb_all (s_vs S) hA.1.1 j k t hk
    obtain ⟨-, j2, j3⟩ := j_turn (ci_jobs hC) hA.1.1 hk
    refine ask (v := if y = 0 then (k : Int) else if y = 1 then (t : Int) else -2) hA hR (same_c hC ?_) (same_r (fun m hm => ?_)) (by split <;> (try split) <;> omega)
    · unfold f_X10_job
      rw [c_hasJ hA hC hx, hp_b, if_pos c, hp_eq_f (by decide) (by decide) (by decide)]
      by_cases c0 : y = 0
      · rw [hp_eq_t hy (by decide) c0, if_pos c0, j2, hp_b]; rfl
      · rw [hp_eq_f hy (by decide) (by omega), if_neg c0]
        by_cases c1 : y = 1
        · rw [hp_eq_t hy (by decide) c1, if_pos c1, j3, hp_b]; rfl
        · rw [hp_eq_f hy (by decide) (by omega), if_neg c1]; rfl
    · obtain ⟨e1, e2⟩ := hm.2.2.2.2.1.2.2.2 j k t hk
      unfold f_X11_job J_X11_job_34
      rw [r_isJ hA hm hx, hp_b, if_pos c, hp_eq_f (by decide) (by decide) (by decide), hp_rg hy, fe_in hy (by decide) (by decide), hp_b]
      by_cases c0 : y = 0
      · rw [if_pos (by omega), hp_eq_f (by decide) (by decide) (by decide), hp_eq_t hy (by decide) c0, if_pos c0, hp_ald (by omega) (by omega), show ((126 : Int) + (j : Int)).toNat = 126 + j by omega, e1]; rfl
      · rw [if_neg c0]
        by_cases c1 : y = 1
        · rw [if_pos (by omega), hp_eq_f (by decide) (by decide) (by decide), hp_eq_f hy (by decide) (by omega), if_pos c1, hp_ald (by omega) (by omega), show ((156 : Int) + (j : Int)).toNat = 156 + j by omega, e2]; rfl
        · rw [if_neg (by omega), hp_eq_t (by decide) (by decide) rfl, if_neg c1]; rfl
  · refine ask (v := -2) hA hR (same_c hC ?_) (same_r (fun m hm => ?_)) (by decide)
    · unfold f_X10_job; rw [c_hasJ hA hC hx, hp_b, if_neg c, hp_eq_t (by decide) (by decide) rfl]; rfl
    · unfold f_X11_job; rw [r_isJ hA hm hx, hp_b, if_neg c, hp_eq_t (by decide) (by decide) rfl]; rfl
theorem op_size (hA : AW S) (hC : CI S r m) (hR : RI S m) {x : Int} (hx : hv_R32 x) : Res (f_X10_size x) (f_X11_size x) r m := by
  have h30 := hA.1.1.1
  by_cases c : 0 ≤ x ∧ x < ((s_vs S).length : Int)
  · obtain ⟨j, ex, hj⟩ := is_nat c
    subst ex
    obtain ⟨b1, b2, b3⟩ := bag_ok hA.1 hj
    refine ask (v := ((bag (s_vs S) j).length : Int)) hA hR (same_c hC ?_) (fun m hm => ?_) (by omega)
    · unfold f_X10_size
      rw [c_yes hA hC hx c, g_size (ci_bag hC hj) (by omega), hp_b]; rfl
    · obtain ⟨m1, G, a1, a2, a3⟩ := r_heapOf hA.1 hm hj
      obtain ⟨t1, t2, t3⟩ := a2.tb hA.1.1 hA.1.law hj
      obtain ⟨m2, d1, d2, d3⟩ := r_countsAll t3 a2.1 t1 t2
      refine ⟨m2, ?_, a3.trans (FA.of (fun k hk => d2 k (by omega)))⟩
      unfold f_X11_size
      rw [r_yes hA hm hx c, a1, hp_b, d1, hp_b]; rfl
  · refine ask (v := -2) hA hR (same_c hC ?_) (same_r (fun m hm => ?_)) (by decide)
    · unfold f_X10_size; rw [c_not hA hC hx c]; rfl
    · unfold f_X11_size; rw [r_not hA hm hx c]; rfl
theorem op_least (hA : AW S) (hC : CI S r m) (hR : RI S m) {x : Int} (hx : hv_R32 x) : Res (f_X10_least x) (f_X11_least x) r m := by
  have h30 := hA.1.1.1
  by_cases c : 0 ≤ x ∧ x < ((s_vs S).length : Int)
  · obtain ⟨j, ex, hj⟩ := is_nat c
    subst ex
    obtain ⟨b1, b2, b3⟩ := bag_ok hA.1 hj
    refine ask (v := if bag (s_vs S) j = [] then -1 else (((bag (s_vs S) j).getD 0 0 % 30 : Nat) : Int)) hA hR (same_c hC ?_) (fun m hm => ?_) (by split <;> omega)
    · unfold f_X10_least
      rw [c_yes hA hC hx c, g_jobAt (ci_bag hC hj) (by omega) (by decide), hp_b]
      by_cases cb : bag (s_vs S) j = []
      · rw [if_pos cb, if_neg (by rw [cb]; simp)]; rfl
      · have := ne_pos cb
        rw [if_neg cb, if_pos (by omega)]; rfl
    · obtain ⟨m1, G, a1, a2, a3⟩ := r_heapOf hA.1 hm hj
      obtain ⟨t1, t2, t3⟩ := a2.tb hA.1.1 hA.1.law hj
      refine ⟨m1, ?_, a3⟩
      unfold f_X11_least
      rw [r_yes hA hm hx c, a1, hp_b, r_leastOf t3 a2.1 t1 t2 b1, hp_b]; rfl
  · refine ask (v := -2) hA hR (same_c hC ?_) (same_r (fun m hm => ?_)) (by decide)
    · unfold f_X10_least; rw [c_not hA hC hx c]; rfl
    · unfold f_X11_least; rw [r_not hA hm hx c]; rfl
theorem op_place (hA : AW S) (hC : CI S r m) (hR : RI S m) {x y : Int} (hx : hv_R32 x) (hy : hv_R32 y) : Res (f_X10_place x y) (f_X11_place x y) r m := by
  have h30 := hA.1.1.1
  by_cases c : 0 ≤ x ∧ x < ((s_vs S).length : Int)
  · obtain ⟨j, ex, hj⟩ := is_nat c
    subst ex
    obtain ⟨b1, b2, b3⟩ := bag_ok hA.1 hj
    by_cases cy : y < 0
    · refine ask (v := -2) hA hR (same_c hC ?_) (same_r (fun m hm => ?_)) (by decide)
      · unfold f_X10_place; rw [c_yes hA hC hx c, hp_lt_t hy (by decide) cy]; rfl
      · unfold f_X11_place; rw [r_yes hA hm hx c, hp_lt_t hy (by decide) cy]; rfl
    · refine ask (v := if y < ((bag (s_vs S) j).length : Int) then (((bag (s_vs S) j).getD y.toNat 0 % 30 : Nat) : Int) else -1) hA hR (same_c hC ?_) (fun m hm => ?_) (by split <;> omega)
      · unfold f_X10_place
        rw [c_yes hA hC hx c, hp_lt_f hy (by decide) (by omega), g_jobAt (ci_bag hC hj) (by omega) hy, hp_b]
        by_cases cl : y < ((bag (s_vs S) j).length : Int)
        · rw [if_pos cl, if_pos ⟨by omega, cl⟩]; rfl
        · rw [if_neg cl, if_neg (by omega)]; rfl
      · obtain ⟨m1, G, a1, a2, a3⟩ := r_heapOf hA.1 hm hj
        obtain ⟨t1, t2, t3⟩ := a2.tb hA.1.1 hA.1.law hj
        obtain ⟨m2, c1, c2, c3⟩ := r_ordered t3 a2.1 t1 t2 b2 b3 b1
        refine ⟨m2, ?_, a3.trans (FA.of (fun k hk => c3 k (by omega) (by omega)))⟩
        unfold f_X11_place
        rw [r_yes hA hm hx c, hp_lt_f hy (by decide) (by omega), a1, hp_b, c1, hp_b]
        by_cases cl : y < ((bag (s_vs S) j).length : Int)
        · rw [if_pos cl, hp_lt_t hy (by omega) cl, hp_ald (by omega) (by omega), c2.2 y.toNat (by omega)]; rfl
        · rw [if_neg cl, hp_lt_f hy (by omega) (by omega)]; rfl
  · refine ask (v := -2) hA hR (same_c hC ?_) (same_r (fun m hm => ?_)) (by decide)
    · unfold f_X10_place; rw [c_not hA hC hx c]; rfl
    · unfold f_X11_place; rw [r_not hA hm hx c]; rfl
theorem cnt_count {vs : List hVr} {l : List Nat} (hl : ∀ t ∈ l, Jt vs t) {j k c : Nat} (hj : (jl vs)[j]? = some (k, c)) (h30 : j < 30) : cnt l j = l.count (k * 30 + j) := by
  unfold cnt List.count
  refine List.countP_congr (fun t ht => ?_)
  simp only [decide_eq_true_eq, beq_iff_eq]
  constructor
  · intro e
    obtain ⟨-, c', h2, -⟩ := hl t ht
    rw [e, hj] at h2
    injection h2 with h2
    injection h2 with h2 _
    omega
  · intro e; omega
theorem op_times (hA : AW S) (hC : CI S r m) (hR : RI S m) {x y : Int} (hx : hv_R32 x) (hy : hv_R32 y) : Res (f_X10_times x y) (f_X11_times x y) r m := by
  have h30 := hA.1.1.1
  have nn := nput_le (s_vs S)
  by_cases c : 0 ≤ x ∧ x < ((s_vs S).length : Int)
  · obtain ⟨j, ex, hj⟩ := is_nat c
    subst ex
    obtain ⟨b1, b2, b3⟩ := bag_ok hA.1 hj
    by_cases cy : 0 ≤ y ∧ y < (nput (s_vs S) : Int)
    · obtain ⟨i, ey, hi⟩ := is_nat cy
      subst ey
      obtain ⟨k, t, hk⟩ := jl_get hi
      obtain ⟨k9, t9⟩ := jb_all (s_vs S) hA.1.1 i k t hk
      have cl : cnt (bag (s_vs S) j) i ≤ (bag (s_vs S) j).length := List.countP_le_length
      obtain ⟨j1, -, -⟩ := j_turn (ci_jobs hC) hA.1.1 hk
      refine ask (v := (cnt (bag (s_vs S) j) i : Int)) hA hR (same_c hC ?_) (fun m hm => ?_) (by omega)
      · unfold f_X10_times
        rw [c_yes hA hC hx c, c_hasJ hA hC hy, hp_b, if_pos cy, hp_eq_f (by decide) (by decide) (by decide), j1, hp_b, g_times (ci_bag hC hj) (by omega) (by omega), hp_b, ← cnt_count b3 hk (by omega)]; rfl
      · obtain ⟨m1, G, a1, a2, a3⟩ := r_heapOf hA.1 hm hj
        obtain ⟨t1, t2, t3⟩ := a2.tb hA.1.1 hA.1.law hj
        obtain ⟨m2, d1, d2, d3⟩ := r_countsAll t3 a2.1 t1 t2
        refine ⟨m2, ?_, a3.trans (FA.of (fun k hk => d2 k (by omega)))⟩
        unfold f_X11_times
        rw [r_yes hA hm hx c, r_isJ hA hm hy, hp_b, if_pos cy, hp_eq_f (by decide) (by decide) (by decide), a1, hp_b, d1, hp_b, hp_ald (by omega) (by omega), Int.toNat_natCast, d3 i (by omega)]; rfl
    · refine ask (v := -2) hA hR (same_c hC ?_) (same_r (fun m hm => ?_)) (by decide)
      · unfold f_X10_times; rw [c_yes hA hC hx c, c_hasJ hA hC hy, hp_b, if_neg cy, hp_eq_t (by decide) (by decide) rfl]; rfl
      · unfold f_X11_times; rw [r_yes hA hm hx c, r_isJ hA hm hy, hp_b, if_neg cy, hp_eq_t (by decide) (by decide) rfl]; rfl
  · refine ask (v := -2) hA hR (same_c hC ?_) (same_r (fun m hm => ?_)) (by decide)
    · unfold f_X10_times; rw [c_not hA hC hx c]; rfl
    · unfold f_X11_times; rw [r_not hA hm hx c]; rfl
end
