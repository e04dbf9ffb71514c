/-! the reference's heaps: take, join -/
section
variable {law : Nat} {A B : hA} {vs : List hVr} {G : hG} {m : hMem}
theorem r_take {x : Nat} {rx : Int} (h : Rel B vs G m) (hw : Wf law A) (hlaw : law = 0 ∨ law = 1) (hx : Hl A [x] ∨ x = 0) (hp : Px (s_take law A x).1 B) (hS : Sm A B G) (hL : g_L G + 200 ≤ 40000) (hi : Hp G rx x) :
    ∃ r' m' G', f_X11_takes (law : Int) rx m = some (r', m') ∧ Rel B vs G' m' ∧ Gx (In A.length (s_take law A x).1.length) ((s_take law A x).2.2 : Int) m G m' G' ∧ Hp G' r' (s_take law A x).2.1 ∧ g_L G' ≤ g_L G + 200 := by
  have L4 := h.2.2.2.1.2.2
  rcases hi with ⟨x0, rx0⟩ | ⟨i, rxi, gi⟩
  · have es : s_take law A x = (A, 0, 0) := by unfold s_take; rw [x0, hw.2.1]; rfl
    rw [es]
    refine ⟨-1, m, G, ?_, h, Gx.refl _ _ _, Or.inl ⟨rfl, rfl⟩, by omega⟩
    unfold f_X11_takes J_X11_takes_14
    rw [rx0, hp_lt_t (by decide) (by decide) (by decide), hp_lt_t (by decide) (by decide) (by decide)]
    rfl
  · obtain ⟨b1, b2, b3, b4, b5, b6⟩ := h.2.2.2.2.2.2.1 i x gi
    have hH : Hl A [x] := hx.resolve_right (by omega)
    have i8 := h.h8 gi
    obtain ⟨x0, xl, xd⟩ := hH x (by simp)
    cases e : n_bl (a_g A x) with
    | nil =>
      have es : s_take law A x = (A, 0, 0) := by unfold s_take; rw [e]
      rw [es] at hp ⊢
      rw [Px.g hp xl, e] at b6
      have k0 : m 70 i = -1 := b6
      refine ⟨-1, m, G, ?_, h, Gx.refl _ _ _, Or.inl ⟨rfl, rfl⟩, by omega⟩
      unfold f_X11_takes J_X11_takes_14
      rw [rxi, hp_lt_f (by omega) (by decide) (by omega), hp_ald (by omega) (by omega), Int.toNat_natCast, k0, hp_lt_t (by decide) (by decide) (by decide)]
      rfl
    | cons z q =>
      obtain ⟨hq, hkk, hl, -, -, -⟩ := heap_q hw hH
      rw [e] at hq hkk hl
      have tk := take_ok hw hlaw hq hkk hl
      have tp : Tk law A (s_least A z q) (z :: q) := take_pieces hw hq hkk hl
      rw [s_take_cons e] at hp ⊢
      obtain ⟨o, ho⟩ : ∃ o, o = s_least A z q := ⟨_, rfl⟩
      have om : o ∈ z :: q := by rw [ho]; exact least_mem q z
      obtain ⟨pp, rr, esp, hpp⟩ := least_first (A := A) q z
      rw [← ho] at tk tp hp esp hpp ⊢
      obtain ⟨g1, hg1⟩ : ∃ g1, g1 = s_merge A (n_bl (a_g A o)).reverse (s_but o (z :: q)) := ⟨_, rfl⟩
      simp only [← hg1] at tk hp ⊢
      obtain ⟨g2, hg2⟩ : ∃ g2, g2 = s_puts law g1.1 (n_sg (a_g A o)) g1.2.1 := ⟨_, rfl⟩
      simp only [← hg2] at tk hp ⊢
      obtain ⟨g3, hg3⟩ : ∃ g3, g3 = s_merge g2.1 (n_bl (a_g A (n_head (a_g A o)))) g2.2.1 := ⟨_, rfl⟩
      simp only [← hg3] at tk hp ⊢
      obtain ⟨⟨w1, p1, t1, s1, -, j1, len1, len1', -⟩, w2, p2, t2, kk2, w3, p3, t3, s3, tnn, -⟩ := tk
      obtain ⟨r, s, hd, kb, t, er, esl, eh, ekb, et, n1, n2, n3, n4, n5, n6, n7, n8, n9, n10, n11, n12⟩ := tnn
      obtain ⟨y, sg, bl, qy, ey, esg, eb, eqy, ety, h3, hO, hY, hSg, hB, hT, hbut, hrev, hky, hw1, hw2, hpm, hsr, hnum, hlen, hge⟩ := tp
      have ol := (hO o (by simp)).2.1
      have yl := (hY y (by simp)).2.1
      have pl := hpm.length_eq
      rw [List.length_cons] at pl
      simp only [List.length_append] at pl
      have p3B : Px g3.1 B := (Px.snoc _ _).trans hp
      have p2B : Px g2.1 B := p3.trans p3B
      have p1B : Px g1.1 B := p2.trans p2B
      have pAB : Px A B := p1.trans p1B
      have hpl : g3.1.length + 1 ≤ B.length := by
        have := hp.len
        rw [List.length_append] at this
        exact this
      rw [pAB.g xl, e] at b6
      obtain ⟨j, iz, ek, jL, e75, gz, hkr⟩ := id b6
      -- the least
      obtain ⟨io, a1, a2⟩ := r_leastL h (law : Int) (m 70 i) q hv_FU iz z (m 76 j) (fu_lt (by have := fm_len hw hq.al; simp only [List.length_cons] at this; omega)) gz hkr
      rw [least_px pAB q z (fun v hv => (hq v hv).2.1), ← ho] at a2
      have io8 := h.t8 a2
      obtain ⟨-, -, -, -, ⟨ih, o72, oH⟩, ott, os, ob⟩ := h.2.2.2.2.2.2.2 _ _ a2
      rw [pAB.g ol, ey] at oH ott
      rw [pAB.g ol, eb] at ob
      -- its subtrees, turned
      rw [eb] at er hg1
      have hrl : bl.reverse.length = bl.length := List.length_reverse
      obtain ⟨kt, m1, G1, c1, c2, c3, c4, c5⟩ := r_revL (B := B) (vs := vs) (law : Int) (m 70 i) (io : Int) bl hv_FU (G := G) (m := m) (l := []) (a := -1) (k := m 74 io) (fu_lt (by omega)) h (by omega) ob rfl
      rw [List.append_nil] at c4
      -- all others
      have hnp : o ∉ pp := fun hm => by have := hpp o hm; omega
      have ebut : s_but o (z :: q) = pp ++ rr := by rw [esp]; exact but_split pp rr hnp
      have hppl : pp.length + rr.length + 1 = (z :: q).length := by rw [esp]; simp only [List.length_append, List.length_cons]; omega
      have hpB : ∀ v ∈ pp, tn B o < tn B v := fun v hv => by
        rw [tn_px pAB ol, tn_px pAB (hq v (by rw [esp]; simp [hv])).2.1]
        exact hpp v hv
      have kbl : pp.length + rr.length = kb := by rw [← ekb, ebut, List.length_append]
      obtain ⟨kw, m2, G2, d1, d2, d3, d4, d5⟩ := r_wof (B := B) (vs := vs) (o := o) (i := io) pp rr 64 (G := G1) (m := m1) (k := m 70 i) (by omega) hpB c2 (c3.mT _ _ a2) (by omega) (by rw [← esp]; exact c3.lT b6)
      rw [← ebut] at d4
      have g02 : Gx No 0 m G m2 G2 := (c3.pre d3).cast (by omega)
      have hS2 : Sm A B G2 := by
        obtain ⟨-, -, ⟨X, eX, -, pX⟩, ⟨Y, eY, -, pY⟩, -⟩ := g02
        have X0 : X = [] := List.eq_nil_iff_forall_not_mem.mpr pX
        have Y0 : Y = [] := List.eq_nil_iff_forall_not_mem.mpr pY
        unfold Sm at hS ⊢
        rw [eX, eY, X0, Y0, List.append_nil, List.append_nil]
        exact hS
      -- merge
      have hB' : Tl A bl.reverse := fun v hv => hB v (List.mem_reverse.mp hv)
      obtain ⟨km, m3, G3, f1, f2, f3, f4, f5⟩ := r_merges (A := A) d2 hw hB' hbut hrev.tail (fun a b l e => by
        rw [e] at hrev
        exact Nat.le_of_lt ((List.pairwise_cons.mp hrev).1 b (by simp))) hw1 hw2 (by rw [List.length_append]; omega) (by omega) (by rw [← hg1]; exact p1B) hS2 (by omega) (d3.lT c4) d4
      rw [← hg1] at f3 f4
      have g03 : Gx (In A.length g1.1.length) (g1.2.2 : Int) m G m3 G3 := (g02.pre f3).cast (by omega)
      have hS3 := hS.step g03 p1.len
      -- singles
      obtain ⟨-, -, -, -, -, -, os3, -⟩ := f2.2.2.2.2.2.2.2 _ _ (g03.mT _ _ a2)
      rw [pAB.g ol, esg] at os3
      rw [esg] at hg2 esl
      have fS := fm_px p1 n_jobs hSg.al
      have l1 := j1.length_eq
      rw [List.length_append] at l1
      rw [eb] at l1 len1'
      have hl2 : (fm g1.1 n_jobs sg ++ fm g1.1 n_jobs g1.2.1).length ≤ 24 := by rw [fS, List.length_append]; omega
      obtain ⟨kp, m4, G4, u1, u2, u3, u4, u5⟩ := r_putsL (B := B) (vs := vs) hlaw (io : Int) sg hv_FU (A := g1.1) (G := G3) (m := m3) (q := g1.2.1) (k := km) (ks := m3 73 io) (fu_lt (by omega)) f2 w1 (hSg.px p1) t1 (Qk.of_sx s1) hl2 (by rw [← hg2]; exact p2B) hS3 (by omega) (by omega) f4 os3
      rw [← hg2] at u3 u4
      have g04 := g03.tr u3 p1.len p2.len
      have hS4 := hS3.step u3 p2.len
      -- the second merge
      have p12 := p1.trans p2
      obtain ⟨-, -, -, -, ⟨ih4, o724, oH4⟩, -⟩ := u2.2.2.2.2.2.2.2 _ _ (g04.mT _ _ a2)
      rw [pAB.g ol, ey] at oH4
      have ih8 := u2.h8 oH4
      obtain ⟨y1, y2, y3, y69, yJ, y70⟩ := u2.2.2.2.2.2.2.1 _ _ oH4
      rw [pAB.g yl, eqy] at y70
      rw [ey, eqy] at hg3 eh
      have hky2 := qk_px p12 hT.al hky
      have fT := fm_px p12 n_jobs hT.al
      have po := puts_ok hlaw sg w1 (hSg.px p1) t1 (Qk.of_sx s1) hl2
      rw [← hg2] at po
      obtain ⟨-, -, -, -, o5, o6, o7⟩ := po
      have l2 := o5.length_eq
      rw [fS, List.length_append] at l2
      obtain ⟨km2, m5, G5, v1, v2, v3, v4, v5⟩ := r_merges (A := g2.1) u2 w2 (hT.px p12) t2 hky2.2.1 hky2.2.2 kk2.2.1 kk2.2.2 (by rw [fT, List.length_append]; omega) (by omega) (by rw [← hg3]; exact p3B) hS4 (by omega) y70 u4
      rw [← hg3] at v3 v4
      have g05 := g04.tr v3 (Nat.le_trans p1.len p2.len) p3.len
      have hS5 := hS4.step v3 p3.len
      -- the heap
      have wg : a_g B g3.1.length = mkH g3.1 g3.1.length (tn A o) g3.2.1 := by
        rw [hp.g (by rw [List.length_append]; exact Nat.lt_succ_self _)]; exact a_g_new
      have etB : tn B g3.1.length = tn B y := by rw [tn, wg, tn_px pAB yl, ← ety]; rfl
      obtain ⟨m6, z1, z2, z3⟩ := r_heap (a := g3.1.length) (k := km2) v2 (by have := hS5.1; omega) (by have := w3.1; omega) hpl (by rw [wg]; rfl) (by rw [etB]; exact yJ) (by rw [wg]; exact v4)
      have L5 : g_L (g_H G5 ++ [g3.1.length], g_T G5, g_L G5) = g_L G5 := rfl
      refine ⟨((g_H G5).length : Int), m6, (g_H G5 ++ [g3.1.length], g_T G5, g_L G5), ?_, z2, ?_, Or.inr ⟨(g_H G5).length, rfl, get_new _ _⟩, by omega⟩
      · unfold f_X11_takes J_X11_takes_14
        rw [rxi, hp_lt_f (by omega) (by decide) (by omega), hp_ald (by omega) (by omega), Int.toNat_natCast]
        rw [show hv_lt (m 70 i) 0 (hv_ret (-1) m) (hv_ald m 75 40000 (m 70 i) (fun v1 => hv_ald m 76 40000 (m 70 i) (fun v2 => L_X11_takes_37 hv_FU (law : Int) (m 70 i) v1 v2 m))) = L_X11_takes_37 hv_FU (law : Int) (m 70 i) (iz : Int) (m 76 j) m by
          rw [hp_lt_f (by omega) (by decide) (by omega), hp_ald (by omega) (by omega), hp_ald (by omega) (by omega), show (m 70 i).toNat = j by omega, e75]]
        rw [a1, hp_ald (by omega) (by omega), Int.toNat_natCast]
        refine Eq.trans c1 ?_
        unfold en106 f_X11_withoutFirst
        rw [d1, hp_b, f1, hp_b, hp_ald (by omega) (by omega), Int.toNat_natCast]
        refine Eq.trans u1 ?_
        unfold en162
        rw [hp_ald (by omega) (by omega), Int.toNat_natCast, o724, hp_ald (by omega) (by omega), hp_ald (by omega) (by omega), Int.toNat_natCast, v1, hp_b, y69, ← etB, z1, hp_b]
        rfl
      · show Gx (In A.length (g3.1 ++ [mkH g3.1 g3.1.length (tn A o) g3.2.1]).length) ((g1.2.2 + g2.2.2 + g3.2.2 : Nat) : Int) m G m6 _
        rw [List.length_append]
        exact (g05.tr z3 (Nat.le_trans (Nat.le_trans p1.len p2.len) p3.len) (Nat.le_succ _)).cast (by omega)
theorem r_join {x y : Nat} {rx ry : Int} (h : Rel B vs G m) (hw : Wf law A) (hlaw : law = 0 ∨ law = 1) (hx : Hl A [x] ∨ x = 0) (hy : Hl A [y] ∨ y = 0) (hl : (jb A x).length + (jb A y).length ≤ 24) (hp : Px (s_join law A x y).1 B) (hS : Sm A B G) (hL : g_L G + 40 ≤ 40000) (hi : Hp G rx x) (hj : Hp G ry y) :
    ∃ r' m' G', f_X11_joins (law : Int) rx ry m = some (r', m') ∧ Rel B vs G' m' ∧ Gx (In A.length (s_join law A x y).1.length) ((s_join law A x y).2.2 : Int) m G m' G' ∧ Hp G' r' (s_join law A x y).2.1 ∧ g_L G' ≤ g_L G + 40 := by
  rcases hi with ⟨x0, rx0⟩ | ⟨i, rxi, gi⟩
  · have es : s_join law A x y = (A, y, 0) := by unfold s_join; rw [if_pos x0]
    rw [es]
    refine ⟨ry, m, G, ?_, h, Gx.refl _ _ _, hj, by omega⟩
    unfold f_X11_joins J_X11_joins_8
    rw [rx0, hp_lt_t (by decide) (by decide) (by decide), hp_lt_t (by decide) (by decide) (by decide)]
    rfl
  · have i8 := h.h8 gi
    have x0 : x ≠ 0 := by have := (h.2.2.2.2.2.2.1 i x gi).1; omega
    rcases hj with ⟨y0, ry0⟩ | ⟨j, ryj, gj⟩
    · have es : s_join law A x y = (A, x, 0) := by unfold s_join; rw [if_neg x0, if_pos y0]
      rw [es]
      refine ⟨rx, m, G, ?_, h, Gx.refl _ _ _, Or.inr ⟨i, rxi, gi⟩, by omega⟩
      unfold f_X11_joins J_X11_joins_8
      rw [ry0, rxi, hp_lt_f (by omega) (by decide) (by omega), hp_lt_t (by decide) (by decide) (by decide), hp_lt_f (by omega) (by decide) (by omega)]
      rfl
    · have j8 := h.h8 gj
      have y0 : y ≠ 0 := by have := (h.2.2.2.2.2.2.1 j y gj).1; omega
      have hx : Hl A [x] := hx.resolve_right x0
      have hy : Hl A [y] := hy.resolve_right y0
      have xl := (hx x (by simp)).2.1
      have yl := (hy y (by simp)).2.1
      have key : ∀ (u d iu jd : Nat), Hl A [u] → Hl A [d] → (jb A u).length + (jb A d).length ≤ 24 → (g_H G)[iu]? = some u → (g_H G)[jd]? = some d → Px ((s_put law A d (n_bl (a_g A u))).1 ++ [mkH (s_put law A d (n_bl (a_g A u))).1 (s_put law A d (n_bl (a_g A u))).1.length (tn A u) (s_put law A d (n_bl (a_g A u))).2.1]) B →
          ∃ r' m' G', J_X11_joins_58 (iu : Int) (m 69 iu) (law : Int) (jd : Int) m = some (r', m') ∧ Rel B vs G' m' ∧ Gx (In A.length ((s_put law A d (n_bl (a_g A u))).1.length + 1)) ((s_put law A d (n_bl (a_g A u))).2.2 : Int) m G m' G' ∧ Hp G' r' (s_put law A d (n_bl (a_g A u))).1.length ∧ g_L G' ≤ g_L G + 40 := by
        intro u d iu jd hu hd hud gu gd hpu
        obtain ⟨u1, u2, u3⟩ := hu u (by simp)
        obtain ⟨hq, hkk, hl23, e, -, -⟩ := heap_q hw hu
        have ju : jb A u = tn A u :: fm A n_jobs (n_bl (a_g A u)) := by rw [jb]; exact (congrArg n_jobs e).trans rfl
        have jul : (jb A u).length = (fm A n_jobs (n_bl (a_g A u))).length + 1 := by rw [ju, List.length_cons]
        have zs := szq_lt (Nat.le_trans (wk_size hw hq hkk.2.1) hl23)
        have hl2 : (jb A d ++ fm A n_jobs (n_bl (a_g A u))).length ≤ 24 := by rw [List.length_append]; omega
        obtain ⟨p1, p2, p3, p4, p5, p6, p7⟩ := put_ok hw hd hq hkk hl2 hlaw
        have pB : Px (s_put law A d (n_bl (a_g A u))).1 B := (Px.snoc _ _).trans hpu
        have pAB := p2.trans pB
        have iu8 := h.h8 gu
        obtain ⟨-, -, -, a69, aJ, a70⟩ := h.2.2.2.2.2.2.1 iu u gu
        rw [pAB.g u2] at a70
        obtain ⟨k', m1, G1, b1, b2, b3, b4, b5⟩ := r_put h hw hlaw hd hq hkk hl2 pB hS (by omega) gd a70
        have hS1 := hS.step b3 p2.len
        have hpl : (s_put law A d (n_bl (a_g A u))).1.length + 1 ≤ B.length := by
          have := hpu.len
          rw [List.length_append] at this
          exact this
        have wg : a_g B (s_put law A d (n_bl (a_g A u))).1.length = mkH (s_put law A d (n_bl (a_g A u))).1 (s_put law A d (n_bl (a_g A u))).1.length (tn A u) (s_put law A d (n_bl (a_g A u))).2.1 := by
          rw [hpu.g (by rw [List.length_append]; exact Nat.lt_succ_self _)]; exact a_g_new
        have etB : tn B (s_put law A d (n_bl (a_g A u))).1.length = tn B u := by rw [tn, wg, tn_px pAB u2]; rfl
        obtain ⟨m2, c1, c2, c3⟩ := r_heap (a := (s_put law A d (n_bl (a_g A u))).1.length) (k := k') b2 (by have := hS1.1; omega) (by have := p1.1; omega) hpl (by rw [wg]; rfl) (by rw [etB]; exact aJ) (by rw [wg]; exact b4)
        refine ⟨((g_H G1).length : Int), m2, (g_H G1 ++ [(s_put law A d (n_bl (a_g A u))).1.length], g_T G1, g_L G1), ?_, c2, (b3.tr c3 p2.len (Nat.le_succ _)).cast (by omega), Or.inr ⟨(g_H G1).length, rfl, get_new _ _⟩, by show g_L G1 ≤ _; omega⟩
        unfold J_X11_joins_58
        rw [hp_ald (by omega) (by omega), Int.toNat_natCast, b1, hp_b, a69, ← etB, c1, hp_b]
        rfl
      have pA : Px A B := by
        have := (join_ok hw hlaw hx hy hl).2.1
        exact this.trans hp
      have ml := r_isLess h gj gi
      rw [tn_px pA yl, tn_px pA xl] at ml
      have start : f_X11_joins (law : Int) rx ry m = hv_b (some ((if tn A y < tn A x then 1 else 0 : Int), m)) (fun r1 m2 => hv_eq r1 0 (J_X11_joins_36 (law : Int) (i : Int) (j : Int) r1 (i : Int) m2) (J_X11_joins_36 (law : Int) (i : Int) (j : Int) r1 (j : Int) m2)) := by
        unfold f_X11_joins
        rw [rxi, ryj, hp_lt_f (by omega) (by decide) (by omega), hp_lt_f (by omega) (by decide) (by omega), ml]
      rw [start, hp_b]
      unfold J_X11_joins_36
      by_cases c : tn A y < tn A x
      · have es : s_join law A x y = ((s_put law A x (n_bl (a_g A y))).1 ++ [mkH (s_put law A x (n_bl (a_g A y))).1 (s_put law A x (n_bl (a_g A y))).1.length (tn A y) (s_put law A x (n_bl (a_g A y))).2.1], (s_put law A x (n_bl (a_g A y))).1.length, (s_put law A x (n_bl (a_g A y))).2.2) := by
          unfold s_join
          rw [if_neg x0, if_neg y0]
          simp only [if_pos c]
        rw [es] at hp ⊢
        obtain ⟨r', m', G', k1, k2, k3, k4, k5⟩ := key y x j i hy hx (by omega) gj gi hp
        refine ⟨r', m', G', ?_, k2, by rw [List.length_append]; exact k3, k4, k5⟩
        rw [if_pos c, hp_eq_f (by decide) (by decide) (by decide), hp_ald (by omega) (by omega), Int.toNat_natCast, hp_eq_f (by decide) (by decide) (by decide)]
        exact k1
      · have es : s_join law A x y = ((s_put law A y (n_bl (a_g A x))).1 ++ [mkH (s_put law A y (n_bl (a_g A x))).1 (s_put law A y (n_bl (a_g A x))).1.length (tn A x) (s_put law A y (n_bl (a_g A x))).2.1], (s_put law A y (n_bl (a_g A x))).1.length, (s_put law A y (n_bl (a_g A x))).2.2) := by
          unfold s_join
          rw [if_neg x0, if_neg y0]
          simp only [if_neg c]
        rw [es] at hp ⊢
        obtain ⟨r', m', G', k1, k2, k3, k4, k5⟩ := key x y i j hx hy hl gi gj hp
        refine ⟨r', m', G', ?_, k2, by rw [List.length_append]; exact k3, k4, k5⟩
        rw [if_neg c, hp_eq_t (by decide) (by decide) rfl, hp_ald (by omega) (by omega), Int.toNat_natCast, hp_eq_t (by decide) (by decide) rfl]
        exact k1
end
