/-! calls on both: cells -/
section
variable {S : hS} {r : Nat} {m : hMem}
theorem CI.walk {r' : Nat} {W : List Nat} {m' : hMem} (hC : CI S r m) (hF : Fr 58 61 m m') (hW : Wk W r' m') : CI S r' m' := by
  obtain ⟨i1, i2, i3, i4, ⟨R0, R1, i5⟩, i6, i7, i8, i9, i10, i11⟩ := hC
  refine ⟨by rw [hF 0 (by omega)]; exact i1, by rw [hF 0 (by omega)]; exact i2, by rw [hF 0 (by omega)]; exact i3, by rw [hF 0 (by omega)]; exact i4, ⟨R0, R1, i5.eq (fun k k1 k2 _ => hF k (by omega))⟩, i6.eq (hF 1 (by omega)) (hF 2 (by omega)), by rw [hF 3 (by omega)]; exact i7, by rw [hF 3 (by omega)]; exact i8, i9.eq (hF 10 (by omega)), hW.1, hW.2.2.2.2.2.2⟩
/-- a version or none, and its heap -/
def Vh (S : hS) (x : Int) (h : Nat) : Prop := (∃ j : Nat, x = (j : Int) ∧ j < (s_vs S).length ∧ h = h_top (s_la S) (s_vs S) j) ∨ (x = -1 ∧ h = 0)
theorem c_walkOver (hA : AW S) (hC : CI S r m) (hr : r < 100000) {W : List Nat} (hW : Wk W r m) (hcl : Cl (ar S) W) {x : Int} {h : Nat} (hx : Vh S x h) : ∃ m' W', f_X10_walkOver x m = some ((W'.length : Int), m') ∧ Wk W' r m' ∧ Fr 58 61 m m' ∧ CI S r m' ∧ Cl (ar S) W' ∧ ∀ y, y ∈ W' ↔ y ∈ W ∨ y ∈ n_reach (a_g (ar S) h) := by
  have h30 := hA.1.1.1
  obtain ⟨w1, w2⟩ := ar_wf hA
  obtain ⟨b, Rs, hb, hb1, hb2⟩ := ci_heaps hA hC
  have hc := hb2.ce
  have ho : f_X2_heapOf b x m = some ((h : Int), m) ∧ h < (ar S).length := by
    rcases hx with ⟨j, ex, hj, eh⟩ | ⟨ex, eh⟩
    · rw [ex, eh]
      exact ⟨v_heapOf hb2 h30 hj, ((hi_all hA.1.law 99 (s_vs S) hA.1.1).2.2.2.2 j hj).1.lt w1⟩
    · rw [ex, eh]
      refine ⟨?_, w1.1⟩
      unfold f_X2_heapOf
      rw [fe_at (by decide) (by omega), hp_b, if_neg (by omega)]
      rfl
  obtain ⟨m', W', a1, a2, a3, a4, a5⟩ := w_over (c := b + 1) hr (by omega) w1 hc hW hcl ho.2
  refine ⟨m', W', ?_, a2, a3, hC.walk a3 a2, a4, a5⟩
  unfold f_X10_walkOver
  rw [hb1, hp_b, hp_is hb (by omega)]
  show hv_b (some (((b + 1 : Nat) : Int), m)) _ = _
  rw [hp_b, cells_is hb, hb1, hp_b, hp_is hb (by omega), ho.1, hp_b, a1, hp_b]
  unfold f_X9_met
  rw [a2.2.1]
  rfl
theorem ci_begin (hC : CI S r m) : ∃ m', f_X9_begin m = some (0, m') ∧ Wk [] (r + 1) m' ∧ Fr 58 61 m m' ∧ CI S (r + 1) m' := by
  obtain ⟨-, -, -, -, -, -, -, -, -, i10, i11⟩ := id hC
  obtain ⟨m', a1, a2, a3⟩ := w_begin (W := []) i11 i10
  exact ⟨m', a1, a2, a3, hC.walk a3 a2⟩
theorem cl_nil (A : hA) : Cl A [] := fun x hx => by cases hx
theorem wk_864 {W : List Nat} (h : Wk W r m) : W.length ≤ 864 := nodup_lt h.2.2.2.1 (fun x hx => (h.2.2.2.2.1 x hx).2)
theorem Fmk.fa {m' : hMem} (h : Fmk m m') : FA m m' := FA.of (fun k hk => h k (by omega) (by omega))
theorem mv_1 (Z : List Nat) (x : Nat) : mv 1 Z [] x = 1 ↔ x ∈ Z := by
  unfold mv
  rw [if_neg (by simp : x ∉ ([] : List Nat))]
  by_cases c : x ∈ Z
  · rw [if_pos c]; exact ⟨fun _ => c, fun _ => rfl⟩
  · rw [if_neg c]; exact ⟨fun h => by simp at h, fun h => absurd h c⟩
theorem mk_swap {Z : List Nat} {G : hG} (h : Mk 1 Z [] G m) : Mk 2 [] Z G m := by
  have e : ∀ a, mv 1 Z [] a = mv 2 [] Z a := fun a => by
    unfold mv
    rw [if_neg (by simp : a ∉ ([] : List Nat)), if_neg (by simp : a ∉ ([] : List Nat))]
    by_cases c : a ∈ Z
    · rw [if_pos c, if_pos c]; rfl
    · rw [if_neg c, if_neg c]
  exact ⟨fun i a hi => by rw [← e]; exact h.1 i a hi, fun i a hi => by rw [← e]; exact h.2 i a hi⟩
theorem mv_21 (Y X : List Nat) (x : Nat) : (mv 2 Y X x = 1 ↔ x ∈ X ∧ ¬ x ∈ Y) ∧ (mv 2 Y X x = 3 ↔ x ∈ X ∧ x ∈ Y) := by
  unfold mv
  by_cases c : x ∈ Y
  · by_cases d : x ∈ X
    · rw [if_pos c, if_pos d]; exact ⟨⟨fun h => by simp at h, fun h => absurd c h.2⟩, ⟨fun _ => ⟨d, c⟩, fun _ => rfl⟩⟩
    · rw [if_pos c, if_neg d]; exact ⟨⟨fun h => by simp at h, fun h => absurd c h.2⟩, ⟨fun h => by simp at h, fun h => absurd h.1 d⟩⟩
  · by_cases d : x ∈ X
    · rw [if_neg c, if_pos d]; exact ⟨⟨fun _ => ⟨d, c⟩, fun _ => rfl⟩, ⟨fun h => by simp at h, fun h => absurd h.2 c⟩⟩
    · rw [if_neg c, if_neg d]; exact ⟨⟨fun h => by simp at h, fun h => absurd h.1 d⟩, ⟨fun h => by simp at h, fun h => absurd h.1 d⟩⟩
theorem cz_nil (B : hA) (n : Nat) : Cz B n [] := fun y hy => by cases hy
/-- the reference, from a version's marks on -/
theorem r_mark1 (hA : AW S) (hm : RI S m) {j : Nat} (hj : j < (s_vs S).length) (F : hMem → hRs) : ∃ m1 G Z, hv_ald m 66 216 0 (fun v3 => hv_b (f_X11_makesAll v3 (-1) m) (fun r4 m5 => hv_b (f_X11_clears m5) (fun r6 m7 => hv_ald m7 77 30 (j : Int) (fun v8 => hv_b (f_X11_marks v8 1 m7) (fun r9 m10 => F m10))))) = F m1 ∧ Rt (s_la S) 99 (s_vs S) G m1 ∧ Mk 1 Z [] G m1 ∧ (∀ x, x ∈ Z ↔ x ∈ n_reach (a_g (ar S) (h_top (s_la S) (s_vs S) j))) ∧ FA m m1 := by
  have h30 := hA.1.1.1
  obtain ⟨m1, G, a1, a2, a3⟩ := r_mkAll hA.1 hm hA.1.law
  obtain ⟨m2, b1, b2, b3⟩ := r_clears a2.1
  obtain ⟨t1, t2, t3⟩ := a2.tb hA.1.1 hA.1.law hj
  obtain ⟨m3, Z, c1, c2, c3, c4, -⟩ := r_marksV (bit := 1) t3 a2.2.1 (Or.inl rfl) (b2.rel a2.1) t1 b3 (cz_nil _)
  have c1 : f_X11_marks (m1 77 j) 1 m2 = some (0, m3) := c1
  have F13 := b2.trans c4
  refine ⟨m3, G, Z, ?_, ⟨F13.rel a2.1, a2.2.1, a2.2.2.1, fun i hi => by rw [F13 77 (by omega) (by omega), F13 78 (by omega) (by omega)]; exact a2.2.2.2 i hi⟩, c2, fun x => ?_, a3.trans F13.fa⟩
  · rw [hp_ald (by decide) (by decide), show m 66 (0 : Int).toNat = (s_la S : Int) from hm.1, a1, hp_b, b1, hp_b, hp_ald (by omega) (by omega), Int.toNat_natCast, b2 77 (by omega) (by omega), c1, hp_b]
  · rw [c3 x]
    exact ⟨fun h => h.elim (fun e => by cases e) id, Or.inr⟩
theorem op_parts (hA : AW S) (hC : CI S r m) (hR : RI S m) (hr : r < 99000) {x : Int} (hx : hv_R32 x) : Res (f_X10_parts x) (f_X11_parts x) r m := by
  by_cases c : 0 ≤ x ∧ x < ((s_vs S).length : Int)
  · obtain ⟨j, ex, hj⟩ := is_nat c
    subst ex
    obtain ⟨w1, w2⟩ := ar_wf hA
    obtain ⟨m1, a1, a2, a3, a4⟩ := ci_begin hC
    obtain ⟨m2, W, b1, b2, b3, b4, b5, b6⟩ := c_walkOver hA a4 (by omega) a2 (cl_nil _) (Or.inl ⟨j, rfl, hj, rfl⟩)
    have wl := wk_864 b2
    refine ask (v := (W.length : Int)) hA hR ⟨m2, r + 1, ?_, b4, fun k hk => (a3.trans b3) k (by omega), by omega⟩ (fun m hm => ?_) (by omega)
    · unfold f_X10_parts
      rw [c_yes hA hC hx c, a1, hp_b, b1, hp_b]; rfl
    · obtain ⟨m3, G, Z, c1, c2, c3, c4, c5⟩ := r_mark1 hA hm hj (fun m10 => hv_b (f_X11_marked 1 m10) (fun r11 m12 => hv_ret r11 m12))
      obtain ⟨t1, t2, t3⟩ := c2.tb hA.1.1 hA.1.law hj
      have mk := r_marked (x1 := 1) (by decide) (Or.inl rfl) c2.1 c3
      have hn := ht_nodup c2.1 c2.2.1
      have hh := reach_HT t3 c2.1 t1
      have e := cnt_set (l := g_H G ++ g_T G) (s := W) (p := fun a => decide (mv 1 Z [] a = 1)) hn b2.2.2.2.1 (fun y => by
        rw [decide_eq_true_iff, mv_1, c4 y, b6 y]
        exact ⟨fun h => h.elim (fun e => by cases e) (fun h => ⟨hh y h, h⟩), fun h => Or.inr h.2⟩)
      refine ⟨m3, ?_, c5⟩
      unfold f_X11_parts
      rw [r_yes hA hm hx c]
      refine Eq.trans c1 ?_
      show hv_b (f_X11_marked 1 m3) _ = _
      rw [mk, hp_b, e]; rfl
  · refine ask (v := -2) hA hR (same_c hC ?_) (same_r (fun m hm => ?_)) (by decide)
    · unfold f_X10_parts; rw [c_not hA hC hx c]; rfl
    · unfold f_X11_parts; rw [r_not hA hm hx c]; rfl
theorem op_shared (hA : AW S) (hC : CI S r m) (hR : RI S m) (hr : r < 99000) {x y : Int} (hx : hv_R32 x) (hy : hv_R32 y) : Res (f_X10_shared x y) (f_X11_shared x y) r m := by
  have h30 := hA.1.1.1
  by_cases c : 0 ≤ x ∧ x < ((s_vs S).length : Int)
  · obtain ⟨i, ex, hi⟩ := is_nat c
    subst ex
    by_cases d : 0 ≤ y ∧ y < ((s_vs S).length : Int)
    · obtain ⟨j, ey, hj⟩ := is_nat d
      subst ey
      obtain ⟨m1, a1, a2, a3, a4⟩ := ci_begin hC
      obtain ⟨m2, Wx, b1, b2, b3, b4, b5, b6⟩ := c_walkOver hA a4 (by omega) a2 (cl_nil _) (Or.inl ⟨i, rfl, hi, rfl⟩)
      obtain ⟨m3, d1, d2, d3, d4⟩ := ci_begin b4
      obtain ⟨m4, Wy, e1, e2, e3, e4, e5, e6⟩ := c_walkOver hA d4 (by omega) d2 (cl_nil _) (Or.inl ⟨j, rfl, hj, rfl⟩)
      obtain ⟨m5, Wu, f1, f2, f3, f4, f5, f6⟩ := c_walkOver hA e4 (by omega) e2 e5 (Or.inl ⟨i, rfl, hi, rfl⟩)
      have l1 := wk_864 b2
      have l2 := wk_864 e2
      have l3 := wk_864 f2
      refine ask (v := (Wx.length : Int) + (Wy.length : Int) - (Wu.length : Int)) hA hR ⟨m5, r + 1 + 1, ?_, f4, fun k hk => ((((a3.trans b3).trans d3).trans e3).trans f3) k (by omega), by omega⟩ (fun m hm => ?_) (by omega)
      · unfold f_X10_shared
        rw [c_yes hA hC hx c, c_yes hA hC hy d, a1, hp_b, b1, hp_b, d1, hp_b, e1, hp_b, f1, hp_b]; rfl
      · obtain ⟨m6, G, Z, c1, c2, c3, c4, c5⟩ := r_mark1 hA hm hi (fun m12 => hv_ald m12 77 30 (j : Int) (fun v13 => hv_b (f_X11_marks v13 2 m12) (fun r14 m15 => hv_b (f_X11_marked 3 m15) (fun r16 m17 => hv_ret r16 m17))))
        obtain ⟨t1, t2, t3⟩ := c2.tb hA.1.1 hA.1.law hi
        obtain ⟨u1, u2, -⟩ := c2.tb hA.1.1 hA.1.law hj
        obtain ⟨m7, Y, g1, g2, g3, g4, -⟩ := r_marksV (bit := 2) t3 c2.2.1 (Or.inr rfl) c2.1 u1 (mk_swap c3) (cz_nil _)
        have g1 : f_X11_marks (m6 77 j) 2 m6 = some (0, m7) := g1
        have R7 := g4.rel c2.1
        have mk := r_marked (x1 := 3) (by decide) (Or.inr rfl) R7 g2
        have hn := ht_nodup c2.1 c2.2.1
        have hh := reach_HT t3 c2.1 t1
        have e := set_both (l := g_H G ++ g_T G) (a := Wx) (y := Wy) (u := Wu) (X := fun q => q ∈ n_reach (a_g (ar S) (h_top (s_la S) (s_vs S) i))) (Y := fun q => q ∈ n_reach (a_g (ar S) (h_top (s_la S) (s_vs S) j))) (p := fun a => decide (mv 2 Y Z a = 3)) hn b2.2.2.2.1 e2.2.2.2.1 f2.2.2.2.1 hh (fun q => by rw [b6 q]; exact ⟨fun h => h.elim (fun e => by cases e) id, Or.inr⟩) (fun q => by rw [e6 q]; exact ⟨fun h => h.elim (fun e => by cases e) id, Or.inr⟩) (fun q => by
          rw [f6 q, e6 q]
          exact ⟨fun h => h.elim (fun h => Or.inl (h.elim (fun e => by cases e) id)) Or.inr, fun h => h.elim (fun h => Or.inl (Or.inr h)) Or.inr⟩) (fun q => by
          rw [decide_eq_true_iff, (mv_21 Y Z q).2, c4 q, g3 q]
          exact ⟨fun h => ⟨h.1, h.2.elim (fun e => by cases e) id⟩, fun h => ⟨h.1, Or.inr h.2⟩⟩)
        refine ⟨m7, ?_, c5.trans g4.fa⟩
        unfold f_X11_shared
        rw [r_yes hA hm hx c, r_yes hA hm hy d]
        refine Eq.trans c1 ?_
        show hv_ald m6 77 30 (j : Int) _ = _
        rw [hp_ald (by omega) (by omega), Int.toNat_natCast, g1, hp_b, mk, hp_b]
        show some (_, m7) = some (_, m7)
        rw [show (((g_H G ++ g_T G).countP (fun a => decide (mv 2 Y Z a = 3)) : Nat) : Int) = (Wx.length : Int) + (Wy.length : Int) - (Wu.length : Int) by omega]
    · refine ask (v := -2) hA hR (same_c hC ?_) (same_r (fun m hm => ?_)) (by decide)
      · unfold f_X10_shared; rw [c_yes hA hC hx c, c_not hA hC hy d]; rfl
      · unfold f_X11_shared; rw [r_yes hA hm hx c, r_not hA hm hy d]; rfl
  · refine ask (v := -2) hA hR (same_c hC ?_) (same_r (fun m hm => ?_)) (by decide)
    · unfold f_X10_shared; rw [c_not hA hC hx c]; rfl
    · unfold f_X11_shared; rw [r_not hA hm hx c]; rfl
theorem op_own (hA : AW S) (hC : CI S r m) (hR : RI S m) (hr : r < 99000) {x : Int} (hx : hv_R32 x) : Res (f_X10_own x) (f_X11_own x) r m := by
  have h30 := hA.1.1.1
  by_cases c : 0 ≤ x ∧ x < ((s_vs S).length : Int)
  · obtain ⟨i, ex, hi⟩ := is_nat c
    subst ex
    obtain ⟨v, hv⟩ : ∃ v, (s_vs S)[i]? = some v := ⟨_, List.getElem?_eq_getElem hi⟩
    have et : (s_vs S).take (i + 1) = (s_vs S).take i ++ [v] := by rw [List.take_add_one, hv]; rfl
    have hos : Os ((s_vs S).take i ++ [v]) := by rw [← et]; exact os_take hA.1.1 _
    obtain ⟨-, -, hOv⟩ := os_snoc.mp hos
    obtain ⟨o1, o2, o3⟩ := ov_lt hOv
    have tl : ((s_vs S).take i).length = i := by rw [List.length_take]; omega
    rw [tl] at o1 o2
    obtain ⟨a1', ha1⟩ : ∃ a1', a1' = (if v_how v = 0 then -1 else (v_of v : Int)) := ⟨_, rfl⟩
    obtain ⟨a2', ha2⟩ : ∃ a2', a2' = (if v_how v = 2 then (v_ot v : Int) else -1) := ⟨_, rfl⟩
    obtain ⟨h1, hh1⟩ : ∃ h1, h1 = (if v_how v = 0 then 0 else h_top (s_la S) (s_vs S) (v_of v)) := ⟨_, rfl⟩
    obtain ⟨h2, hh2⟩ : ∃ h2, h2 = (if v_how v = 2 then h_top (s_la S) (s_vs S) (v_ot v) else 0) := ⟨_, rfl⟩
    have V1 : Vh S a1' h1 := by
      rw [ha1, hh1]
      by_cases q : v_how v = 0
      · rw [if_pos q, if_pos q]; exact Or.inr ⟨rfl, rfl⟩
      · rw [if_neg q, if_neg q]; exact Or.inl ⟨v_of v, rfl, by have := o1 q; omega, rfl⟩
    have V2 : Vh S a2' h2 := by
      rw [ha2, hh2]
      by_cases q : v_how v = 2
      · rw [if_pos q, if_pos q]; exact Or.inl ⟨v_ot v, rfl, by have := o2 q; omega, rfl⟩
      · rw [if_neg q, if_neg q]; exact Or.inr ⟨rfl, rfl⟩
    obtain ⟨m1, a1, a2, a3, a4⟩ := ci_begin hC
    obtain ⟨-, s2, -, -⟩ := s_get (ci_story a4) h30 hv
    rw [← ha1] at s2
    obtain ⟨m2, W1, b1, b2, b3, b4, b5, b6⟩ := c_walkOver hA a4 (by omega) a2 (cl_nil _) V1
    obtain ⟨-, -, s3, -⟩ := s_get (ci_story b4) h30 hv
    rw [← ha2] at s3
    obtain ⟨m3, W2, d1, d2, d3, d4, d5, d6⟩ := c_walkOver hA b4 (by omega) b2 b5 V2
    obtain ⟨m4, W3, e1, e2, e3, e4, e5, e6⟩ := c_walkOver hA d4 (by omega) d2 d5 (Or.inl ⟨i, rfl, hi, rfl⟩)
    have l2 := wk_864 d2
    have l3 := wk_864 e2
    refine ask (v := (W3.length : Int) - (W2.length : Int)) hA hR ⟨m4, r + 1, ?_, e4, fun k hk => (((a3.trans b3).trans d3).trans e3) k (by omega), by omega⟩ (fun m hm => ?_) (by omega)
    · unfold f_X10_own
      rw [c_yes hA hC hx c, a1, hp_b, s2, hp_b, b1, hp_b, s3, hp_b, d1, hp_b, e1, hp_b]; rfl
    · obtain ⟨m6, G, Z, c1, c2, c3, c4, c5⟩ := r_mark1 hA hm hi (fun m10 => hv_ald m10 66 216 (6 + (i : Int)) (fun v11 => hv_eq v11 0 (J_X11_own_68 (i : Int) m10) (hv_ald m10 66 216 (36 + (i : Int)) (fun v12 => hv_ald m10 77 30 v12 (fun v13 => hv_b (f_X11_marks v13 2 m10) (fun r14 m15 => J_X11_own_68 (i : Int) m15))))))
      obtain ⟨t1, t2, t3⟩ := c2.tb hA.1.1 hA.1.law hi
      have M6 := (c2.1.2.2.2.2.1).2.2.1 i v hv
      obtain ⟨M1, M2, M3, -⟩ := M6
      have e6' : ((6 : Int) + (i : Int)).toNat = 6 + i := by omega
      have e36 : ((36 : Int) + (i : Int)).toNat = 36 + i := by omega
      have e66 : ((66 : Int) + (i : Int)).toNat = 66 + i := by omega
      have n0 : n_reach (a_g (ar S) 0) = [] := by unfold ar; rw [t3.2.1]; rfl
      have st1 : ∃ mA ZA, hv_eq (v_how v : Int) 0 (J_X11_own_68 (i : Int) m6) (hv_ald m6 66 216 (36 + (i : Int)) (fun v12 => hv_ald m6 77 30 v12 (fun v13 => hv_b (f_X11_marks v13 2 m6) (fun r14 m15 => J_X11_own_68 (i : Int) m15)))) = J_X11_own_68 (i : Int) mA ∧ Mk 2 ZA Z G mA ∧ (∀ y, y ∈ ZA ↔ y ∈ n_reach (a_g (ar S) h1)) ∧ Fmk m6 mA ∧ ∀ n, Cz (ar S) n ZA := by
        by_cases q : v_how v = 0
        · refine ⟨m6, [], ?_, mk_swap c3, fun y => by rw [hh1, if_pos q, n0], Fmk.refl m6, cz_nil _⟩
          rw [hp_eq_t (by omega) (by decide) (by omega)]
        · have ofl := o1 q
          have M2 : m6 66 (36 + i) = (v_of v : Int) := by rw [M2, if_neg q]
          obtain ⟨u1, u2, -⟩ := c2.tb hA.1.1 hA.1.law (j := v_of v) (by omega)
          obtain ⟨m7, Y, g1, g2, g3, g4, g5⟩ := r_marksV (bit := 2) t3 c2.2.1 (Or.inr rfl) c2.1 u1 (mk_swap c3) (cz_nil _)
          have g1 : f_X11_marks (m6 77 (v_of v)) 2 m6 = some (0, m7) := g1
          refine ⟨m7, Y, ?_, g2, fun y => ?_, g4, g5⟩
          · rw [hp_eq_f (by omega) (by decide) (by omega), hp_ald (by omega) (by omega), e36, M2, hp_ald (by omega) (by omega), Int.toNat_natCast, g1, hp_b]
          · rw [g3 y, hh1, if_neg q]
            exact ⟨fun h => h.elim (fun e => by cases e) id, Or.inr⟩
      obtain ⟨mA, ZA, A1, A2, A3, A4, A5⟩ := st1
      have k66 : mA 66 = m6 66 := A4 66 (by omega) (by omega)
      have st2 : ∃ mB ZB, J_X11_own_68 (i : Int) mA = J_X11_own_100 mB ∧ Mk 2 ZB Z G mB ∧ (∀ y, y ∈ ZB ↔ y ∈ ZA ∨ y ∈ n_reach (a_g (ar S) h2)) ∧ Fmk mA mB := by
        unfold J_X11_own_68
        rw [hp_ald (by omega) (by omega), e6', k66, M1]
        by_cases q : v_how v = 2
        · have otl := o2 q
          have M3 : m6 66 (66 + i) = (v_ot v : Int) := by rw [M3, if_pos q]
          obtain ⟨u1, u2, -⟩ := c2.tb hA.1.1 hA.1.law (j := v_ot v) (by omega)
          obtain ⟨m7, Y, g1, g2, g3, g4, -⟩ := r_marksV (bit := 2) t3 c2.2.1 (Or.inr rfl) (A4.rel c2.1) u1 A2 A5
          have g1 : f_X11_marks (m6 77 (v_ot v)) 2 mA = some (0, m7) := g1
          refine ⟨m7, Y, ?_, g2, fun y => by rw [g3 y, hh2, if_pos q]; rfl, g4⟩
          rw [hp_eq_t (by omega) (by decide) (by omega), hp_ald (by omega) (by omega), e66, k66, M3, hp_ald (by omega) (by omega), Int.toNat_natCast, A4 77 (by omega) (by omega), g1, hp_b]
        · refine ⟨mA, ZA, ?_, A2, fun y => ?_, Fmk.refl mA⟩
          · rw [hp_eq_f (by omega) (by decide) (by omega)]
          · rw [hh2, if_neg q, n0]
            exact ⟨Or.inl, fun h => h.elim id (fun e => by cases e)⟩
      obtain ⟨mB, ZB, B1, B2, B3, B4⟩ := st2
      have FB := A4.trans B4
      have mk := r_marked (x1 := 1) (by decide) (Or.inr rfl) (FB.rel c2.1) B2
      have hn := ht_nodup c2.1 c2.2.1
      have hh := reach_HT t3 c2.1 t1
      have e := set_diff (l := g_H G ++ g_T G) (y := W2) (u := W3) (X := fun q => q ∈ n_reach (a_g (ar S) (h_top (s_la S) (s_vs S) i))) (Y := fun q => q ∈ n_reach (a_g (ar S) h1) ∨ q ∈ n_reach (a_g (ar S) h2)) (p := fun a => decide (mv 2 ZB Z a = 1)) hn d2.2.2.2.1 e2.2.2.2.1 hh (fun q => by
        rw [d6 q, b6 q]
        exact ⟨fun h => h.elim (fun h => Or.inl (h.elim (fun e => by cases e) id)) Or.inr, fun h => h.elim (fun h => Or.inl (Or.inr h)) Or.inr⟩) (fun q => by
        rw [e6 q, d6 q, b6 q]
        exact ⟨fun h => h.elim (fun h => Or.inl (h.elim (fun h => Or.inl (h.elim (fun e => by cases e) id)) Or.inr)) Or.inr, fun h => h.elim (fun h => Or.inl (h.elim (fun h => Or.inl (Or.inr h)) Or.inr)) Or.inr⟩) (fun q _ => by
        rw [decide_eq_true_iff, (mv_21 ZB Z q).1, c4 q, B3 q, A3 q])
      refine ⟨mB, ?_, c5.trans FB.fa⟩
      unfold f_X11_own
      rw [r_yes hA hm hx c]
      refine Eq.trans c1 ?_
      show hv_ald m6 66 216 (6 + (i : Int)) _ = _
      rw [hp_ald (by omega) (by omega), e6', M1]
      refine Eq.trans A1 (Eq.trans B1 ?_)
      unfold J_X11_own_100
      rw [mk, hp_b]
      show some (_, mB) = some (_, mB)
      rw [show (((g_H G ++ g_T G).countP (fun a => decide (mv 2 ZB Z a = 1)) : Nat) : Int) = (W3.length : Int) - (W2.length : Int) by omega]
  · refine ask (v := -2) hA hR (same_c hC ?_) (same_r (fun m hm => ?_)) (by decide)
    · unfold f_X10_own; rw [c_not hA hC hx c]; rfl
    · unfold f_X11_own; rw [r_not hA hm hx c]; rfl
end
