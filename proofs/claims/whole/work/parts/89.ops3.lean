/-! calls on both: trees, depth, links -/
section
variable {S : hS} {r : Nat} {m : hMem}
theorem r_longL {L : Nat} {M : List Nat} (hL : L ≤ 40000) : ∀ (l : List Nat) (n s : Nat) (k : Int), l.length < n → Lr m L M k l → L_X11_longOf_4 n (s : Int) k m = some (((s + l.length : Nat) : Int), m)
  | _, 0, _, _, hn, _ => by omega
  | [], n + 1, s, k, hn, hk => by
    have k0 : k = -1 := hk
    show B_X11_longOf_4 (L_X11_longOf_4 n) (s : Int) k m = _
    unfold B_X11_longOf_4
    rw [hp_lt_t (by omega) (by decide) (by omega)]
    rfl
  | x :: l, n + 1, s, k, hn, hk => by
    obtain ⟨j, t, ek, jL, e75, gx, hkr⟩ := id hk
    simp only [List.length_cons] at hn
    have g := r_longL hL l n (s + 1) (m 76 j) (by omega) hkr
    show B_X11_longOf_4 (L_X11_longOf_4 n) (s : Int) k m = _
    unfold B_X11_longOf_4
    rw [ek, hp_lt_f (by omega) (by decide) (by omega), hp_set, hp_ald (by omega) (by omega), Int.toNat_natCast, show (s : Int) + 1 = ((s + 1 : Nat) : Int) by omega, g, List.length_cons, show s + 1 + l.length = s + (l.length + 1) by omega]
theorem r_long {L : Nat} {M l : List Nat} {k : Int} (hL : L ≤ 40000) (hl : l.length ≤ 24) (hk : Lr m L M k l) : f_X11_longOf k m = some ((l.length : Int), m) := by
  have g := r_longL hL l hv_FU 0 k (fu_lt (by omega)) hk
  rw [Nat.zero_add] at g
  exact g
theorem r_thingL {L : Nat} {M : List Nat} (hL : L ≤ 40000) {x2 : Nat} (hx2 : x2 < 100) : ∀ (d n i : Nat) (l : List Nat) (k : Int), i + d = x2 → d < n → d < l.length → Lr m L M k l → ∃ t : Nat, L_X11_thingOf_5 n (x2 : Int) k (i : Int) m = some ((t : Int), m) ∧ M[t]? = some (l.getD d 0)
  | _, 0, _, _, _, _, hn, _, _ => by omega
  | d, n + 1, i, [], k, hi, hn, hd, hk => by simp at hd
  | 0, n + 1, i, x :: l, k, hi, hn, hd, hk => by
    obtain ⟨j, t, ek, jL, e75, gx, hkr⟩ := id hk
    refine ⟨t, ?_, gx⟩
    show B_X11_thingOf_5 (L_X11_thingOf_5 n) (x2 : Int) k (i : Int) m = _
    unfold B_X11_thingOf_5
    rw [hp_lt_f (by omega) (by omega) (by omega), ek, hp_ald (by omega) (by omega), Int.toNat_natCast, e75]
    rfl
  | d + 1, n + 1, i, x :: l, k, hi, hn, hd, hk => by
    obtain ⟨j, t, ek, jL, e75, gx, hkr⟩ := id hk
    simp only [List.length_cons] at hd
    obtain ⟨t', a1, a2⟩ := r_thingL hL hx2 d n (i + 1) l (m 76 j) (by omega) (by omega) (by omega) hkr
    refine ⟨t', ?_, a2⟩
    show B_X11_thingOf_5 (L_X11_thingOf_5 n) (x2 : Int) k (i : Int) m = _
    unfold B_X11_thingOf_5
    rw [hp_lt_t (by omega) (by omega) (by omega), ek, hp_ald (by omega) (by omega), Int.toNat_natCast, hp_set]
    exact a1
/-- a version's arena, its queue -/
def ar (S : hS) : hA := (h_all (s_la S) 99 (s_vs S)).1
def que (S : hS) (j : Nat) : List Nat := n_bl (a_g (ar S) (h_top (s_la S) (s_vs S) j))
theorem ar_wf (hA : AW S) : Wf (s_la S) (ar S) ∧ (ar S).length ≤ 481 := by
  have h30 := hA.1.1.1
  have h := hi_all hA.1.law 99 (s_vs S) hA.1.1
  refine ⟨h.1, ?_⟩
  have := h.2.2.2.1
  show (h_all (s_la S) 99 (s_vs S)).1.length ≤ 481
  omega
theorem que_ok (hA : AW S) {j : Nat} (hj : j < (s_vs S).length) : (que S j).length < 6 ∧ Tl (ar S) (que S j) := by
  have h := hi_all hA.1.law 99 (s_vs S) hA.1.1
  exact (h.2.2.2.2 j hj).1.q24 h.1
theorem r_queueOf (hA : AW S) (h : RI S m) {j : Nat} (hj : j < (s_vs S).length) : ∃ m' G k, f_X11_queueOf (j : Int) m = some (k, m') ∧ Rt (s_la S) 99 (s_vs S) G m' ∧ Lr m' (g_L G) (g_T G) k (que S j) ∧ FA m m' := by
  obtain ⟨m1, G, a1, a2, a3⟩ := r_heapOf hA.1 h hj
  obtain ⟨t1, t2, t3⟩ := a2.tb hA.1.1 hA.1.law hj
  rcases t1 with ⟨e0, e1⟩ | ⟨i, e1, gi⟩
  · refine ⟨m1, G, -1, ?_, a2, ?_, a3⟩
    · unfold f_X11_queueOf
      rw [a1, hp_b, e1, hp_lt_t (by decide) (by decide) (by decide)]
      rfl
    · have eq : que S j = [] := by unfold que ar; rw [e0, t3.2.1]; rfl
      rw [eq]
      exact rfl
  · have i8 := a2.1.h8 gi
    refine ⟨m1, G, m1 70 i, ?_, a2, (a2.1.2.2.2.2.2.2.1 i _ gi).2.2.2.2.2, a3⟩
    unfold f_X11_queueOf
    rw [a1, hp_b, e1, hp_lt_f (by omega) (by decide) (by omega), hp_ald (by omega) (by omega), Int.toNat_natCast]
    rfl
theorem op_trees (hA : AW S) (hC : CI S r m) (hR : RI S m) {x : Int} (hx : hv_R32 x) : Res (f_X10_trees x) (f_X11_trees x) r m := by
  have h30 := hA.1.1.1
  by_cases c : 0 ≤ x ∧ x < ((s_vs S).length : Int)
  · obtain ⟨j, ex, hj⟩ := is_nat c
    subst ex
    obtain ⟨q6, -⟩ := que_ok hA hj
    obtain ⟨b, Rs, hb, hb1, hb2⟩ := ci_heaps hA hC
    refine ask (v := ((que S j).length : Int)) hA hR (same_c hC ?_) (fun m hm => ?_) (by omega)
    · unfold f_X10_trees
      rw [c_yes hA hC hx c, hb1, hp_b, hp_is hb (by omega), v_treesOf hA.1.law hb2 hA.1.1 hj, hp_b]; rfl
    · obtain ⟨m1, G, k, a1, a2, a3, a4⟩ := r_queueOf hA hm hj
      refine ⟨m1, ?_, a4⟩
      unfold f_X11_trees
      rw [r_yes hA hm hx c, a1, hp_b, r_long a2.1.2.2.2.1.2.2 (by omega) a3, hp_b]; rfl
  · refine ask (v := -2) hA hR (same_c hC ?_) (same_r (fun m hm => ?_)) (by decide)
    · unfold f_X10_trees; rw [c_not hA hC hx c]; rfl
    · unfold f_X11_trees; rw [r_not hA hm hx c]; rfl
/-- a call on a tree -/
theorem op_tree (hA : AW S) (hC : CI S r m) (hR : RI S m) {x y : Int} (hx : hv_R32 x) (hy : hv_R32 y) (f g : hMem → hRs) (Fc Fr : Int → hMem → hRs) (val : Nat → Int) (hf : ∀ m, f m = hv_b (f_X10_treeAt x y m) (fun r1 m2 => hv_lt r1 0 (hv_ret r1 m2) (Fc r1 m2))) (hg : ∀ m, g m = hv_b (f_X11_treeAt x y m) (fun r1 m2 => hv_lt r1 0 (hv_ret r1 m2) (Fr r1 m2))) (hFc : ∀ id : Nat, Tl (ar S) [id] → Fc (id : Int) m = some (val id, m)) (hFr : ∀ (m2 : hMem) (G : hG) (t id : Nat), Rt (s_la S) 99 (s_vs S) G m2 → (g_T G)[t]? = some id → ∃ m3, Fr (t : Int) m2 = some (val id, m3) ∧ FA m2 m3) (hval : ∀ id : Nat, Tl (ar S) [id] → hv_R32 (val id)) :
    Res f g r m := by
  have h30 := hA.1.1.1
  obtain ⟨w1, w2⟩ := ar_wf hA
  by_cases c : 0 ≤ x ∧ x < ((s_vs S).length : Int)
  · obtain ⟨j, ex, hj⟩ := is_nat c
    subst ex
    obtain ⟨q6, qT⟩ := que_ok hA hj
    by_cases cy : y < 0
    · refine ask (v := -2) hA hR (same_c hC ?_) (same_r (fun m hm => ?_)) (by decide)
      · rw [hf]
        unfold f_X10_treeAt; rw [c_yes hA hC hx c, hp_lt_t hy (by decide) cy]; rfl
      · rw [hg]
        unfold f_X11_treeAt; rw [r_yes hA hm hx c, hp_lt_t hy (by decide) cy]; rfl
    · obtain ⟨b, Rs, hb, hb1, hb2⟩ := ci_heaps hA hC
      have ct : f_X2_treeOf b (j : Int) y m = some ((((que S j).getD y.toNat 0 : Nat) : Int), m) := v_treeOf hA.1.law hb2 hA.1.1 hj hy (by omega)
      by_cases cl : y < ((que S j).length : Int)
      · have hm : (que S j).getD y.toNat 0 ∈ que S j := getD_mem (by omega)
        obtain ⟨id, hid⟩ : ∃ id, id = (que S j).getD y.toNat 0 := ⟨_, rfl⟩
        rw [← hid] at ct hm
        obtain ⟨i0, il, idd⟩ := qT id hm
        have hT : Tl (ar S) [id] := tl_one i0 il idd
        refine ask (v := val id) hA hR (same_c hC ?_) (fun m hm => ?_) (hval id hT)
        · rw [hf]
          unfold f_X10_treeAt
          rw [c_yes hA hC hx c, hp_lt_f hy (by decide) (by omega), hb1, hp_b, hp_is hb (by omega), ct, hp_b, hp_eq_f (by omega) (by decide) (by omega)]
          show hv_b (some ((id : Int), m)) _ = _
          rw [hp_b, hp_lt_f (by omega) (by decide) (by omega)]
          exact hFc id hT
        · obtain ⟨m1, G, k, a1, a2, a3, a4⟩ := r_queueOf hA hm hj
          obtain ⟨t, t1, t2⟩ := r_thingL a2.1.2.2.2.1.2.2 (x2 := y.toNat) (by omega) y.toNat hv_FU 0 (que S j) k (by omega) (fu_lt (by omega)) (by omega) a3
          rw [← hid] at t2
          have t8 := a2.1.t8 t2
          have ey : ((y.toNat : Nat) : Int) = y := by omega
          rw [ey] at t1
          have t1 : f_X11_thingOf k y m1 = some ((t : Int), m1) := t1
          obtain ⟨m3, f1, f2⟩ := hFr m1 G t id a2 t2
          refine ⟨m3, ?_, a4.trans f2⟩
          rw [hg]
          unfold f_X11_treeAt
          rw [r_yes hA hm hx c, hp_lt_f hy (by decide) (by omega), a1, hp_b, r_long a2.1.2.2.2.1.2.2 (by omega) a3, hp_b, hp_lt_t hy (by omega) cl, t1, hp_b]
          show hv_b (some ((t : Int), m1)) _ = _
          rw [hp_b, hp_lt_f (by omega) (by decide) (by omega)]
          exact f1
      · have e0 : (que S j).getD y.toNat 0 = 0 := getD_out _ _ (by omega)
        rw [e0] at ct
        have ct : f_X2_treeOf b (j : Int) y m = some (0, m) := ct
        refine ask (v := -1) hA hR (same_c hC ?_) (fun m hm => ?_) (by decide)
        · rw [hf]
          unfold f_X10_treeAt
          rw [c_yes hA hC hx c, hp_lt_f hy (by decide) (by omega), hb1, hp_b, hp_is hb (by omega), ct, hp_b, hp_eq_t (by decide) (by decide) rfl]; rfl
        · obtain ⟨m1, G, k, a1, a2, a3, a4⟩ := r_queueOf hA hm hj
          refine ⟨m1, ?_, a4⟩
          rw [hg]
          unfold f_X11_treeAt
          rw [r_yes hA hm hx c, hp_lt_f hy (by decide) (by omega), a1, hp_b, r_long a2.1.2.2.2.1.2.2 (by omega) a3, hp_b, hp_lt_f hy (by omega) (by omega)]; rfl
  · refine ask (v := -2) hA hR (same_c hC ?_) (same_r (fun m hm => ?_)) (by decide)
    · rw [hf]
      unfold f_X10_treeAt; rw [c_not hA hC hx c]; rfl
    · rw [hg]
      unfold f_X11_treeAt; rw [r_not hA hm hx c]; rfl
/-- the class's cells of a tree -/
theorem cells_is {b : Nat} (hb : b = 26 ∨ b = 42) {f : Nat → hRs} : hv_is 27 43 ((b + 1 : Nat) : Int) f = f (b + 1) := hp_is (by omega) (by omega)
theorem op_rank (hA : AW S) (hC : CI S r m) (hR : RI S m) {x y : Int} (hx : hv_R32 x) (hy : hv_R32 y) : Res (f_X10_rank x y) (f_X11_rank x y) r m := by
  obtain ⟨b, Rs, hb, hb1, hb2⟩ := ci_heaps hA hC
  have hc := hb2.ce
  obtain ⟨w1, w2⟩ := ar_wf hA
  refine op_tree hA hC hR hx hy (f_X10_rank x y) (f_X11_rank x y) (fun r1 m2 => hv_b (f_X10_heaps m2) (fun r3 m4 => hv_is 26 42 r3 (fun b5 => hv_b (f_X2_cells b5 m4) (fun r6 m7 => hv_is 27 43 r6 (fun b8 => hv_b (f_X1_rankOf b8 r1 m7) (fun r9 m10 => hv_ret r9 m10)))))) (fun r1 m2 => hv_ald m2 71 8000 r1 (fun v3 => hv_ret v3 m2)) (fun id => (rk (ar S) id : Int)) (fun _ => rfl) (fun _ => rfl) (fun id hT => ?_) (fun m2 G t id ht gt => ?_) (fun id hT => ?_)
  · show hv_b (f_X10_heaps m) _ = _
    rw [hb1, hp_b, hp_is hb (by omega)]
    show hv_b (some (((b + 1 : Nat) : Int), m)) _ = _
    rw [hp_b, cells_is hb, ce_rank hc (hT id (by simp)).2.1, hp_b]; rfl
  · have t8 := ht.1.t8 gt
    refine ⟨m2, ?_, FA.refl m2⟩
    show hv_ald m2 71 8000 (t : Int) _ = _
    rw [hp_ald (by omega) (by omega), Int.toNat_natCast, (ht.1.2.2.2.2.2.2.2 t id gt).2.2.2.1]; rfl
  · have := wf_tn w1 (hT id (by simp)).2.1
    show hv_R32 (rk (ar S) id : Int)
    omega
theorem op_holds (hA : AW S) (hC : CI S r m) (hR : RI S m) {x y : Int} (hx : hv_R32 x) (hy : hv_R32 y) : Res (f_X10_holds x y) (f_X11_holds x y) r m := by
  obtain ⟨b, Rs, hb, hb1, hb2⟩ := ci_heaps hA hC
  have hc := hb2.ce
  obtain ⟨w1, w2⟩ := ar_wf hA
  refine op_tree hA hC hR hx hy (f_X10_holds x y) (f_X11_holds x y) (fun r1 m2 => hv_b (f_X10_heaps m2) (fun r3 m4 => hv_is 26 42 r3 (fun b5 => hv_b (f_X2_cells b5 m4) (fun r6 m7 => hv_is 27 43 r6 (fun b8 => hv_b (f_X1_holdsOf b8 r1 m7) (fun r9 m10 => hv_ret r9 m10)))))) (fun r1 m2 => hv_b (f_X11_countsTree r1 m2) (fun r3 m4 => hv_ret r3 m4)) (fun id => (n_holds (a_g (ar S) id) : Int)) (fun _ => rfl) (fun _ => rfl) (fun id hT => ?_) (fun m2 G t id ht gt => ?_) (fun id hT => ?_)
  · show hv_b (f_X10_heaps m) _ = _
    rw [hb1, hp_b, hp_is hb (by omega)]
    show hv_b (some (((b + 1 : Nat) : Int), m)) _ = _
    rw [hp_b, cells_is hb, ce_holds hc (hT id (by simp)).2.1, hp_b]; rfl
  · obtain ⟨m3, f1, f2⟩ := r_countsTree w1 ht.1 gt
    refine ⟨m3, ?_, FA.of (fun k hk => f2 k (by omega))⟩
    show hv_b (f_X11_countsTree (t : Int) m2) _ = _
    rw [f1, hp_b]; rfl
  · have := wf_tn w1 (hT id (by simp)).2.1
    show hv_R32 (n_holds (a_g (ar S) id) : Int)
    omega
theorem op_singles (hA : AW S) (hC : CI S r m) (hR : RI S m) {x y : Int} (hx : hv_R32 x) (hy : hv_R32 y) : Res (f_X10_singles x y) (f_X11_singles x y) r m := by
  obtain ⟨b, Rs, hb, hb1, hb2⟩ := ci_heaps hA hC
  have hc := hb2.ce
  obtain ⟨w1, w2⟩ := ar_wf hA
  have n24 : ∀ id : Nat, Tl (ar S) [id] → (n_sg (a_g (ar S) id)).length ≤ 24 := fun id hT => by
    obtain ⟨i0, il, idd⟩ := hT id (by simp)
    exact (node_T w1 i0 il idd).2.2.2.2.2.1
  refine op_tree hA hC hR hx hy (f_X10_singles x y) (f_X11_singles x y) (fun r1 m2 => hv_b (f_X10_heaps m2) (fun r3 m4 => hv_is 26 42 r3 (fun b5 => hv_b (f_X2_cells b5 m4) (fun r6 m7 => hv_is 27 43 r6 (fun b8 => hv_b (f_X10_heaps m7) (fun r9 m10 => hv_is 26 42 r9 (fun b11 => hv_b (f_X2_cells b11 m10) (fun r12 m13 => hv_is 27 43 r12 (fun b14 => hv_b (f_X1_singlesOf b14 r1 m13) (fun r15 m16 => hv_b (f_X1_lengthOf b8 r15 m16) (fun r17 m18 => hv_ret r17 m18))))))))))) (fun r1 m2 => hv_ald m2 73 8000 r1 (fun v3 => hv_b (f_X11_longOf v3 m2) (fun r4 m5 => hv_ret r4 m5))) (fun id => ((n_sg (a_g (ar S) id)).length : Int)) (fun _ => rfl) (fun _ => rfl) (fun id hT => ?_) (fun m2 G t id ht gt => ?_) (fun id hT => ?_)
  · obtain ⟨k, k1, k2⟩ := ce_singles hc (hT id (by simp)).2.1
    have k1 : f_X1_singlesOf (b + 1) (id : Int) m = some (k, m) := k1
    have l24 := n24 id hT
    show hv_b (f_X10_heaps m) _ = _
    rw [hb1, hp_b, hp_is hb (by omega)]
    show hv_b (some (((b + 1 : Nat) : Int), m)) _ = _
    rw [hp_b, cells_is hb, hb1, hp_b, hp_is hb (by omega)]
    show hv_b (some (((b + 1 : Nat) : Int), m)) _ = _
    rw [hp_b, cells_is hb, k1, hp_b, c_length hc k2 (by show (n_sg (a_g (ar S) id)).length ≤ 2592; omega), hp_b]; rfl
  · have t8 := ht.1.t8 gt
    obtain ⟨i0, il, idd, -, -, -, i73, -⟩ := ht.1.2.2.2.2.2.2.2 t id gt
    have l24 := n24 id (tl_one i0 il idd)
    refine ⟨m2, ?_, FA.refl m2⟩
    show hv_ald m2 73 8000 (t : Int) _ = _
    rw [hp_ald (by omega) (by omega), Int.toNat_natCast, r_long ht.1.2.2.2.1.2.2 (by exact l24) i73, hp_b]; rfl
  · have := n24 id hT
    show hv_R32 ((n_sg (a_g (ar S) id)).length : Int)
    omega
theorem op_head (hA : AW S) (hC : CI S r m) (hR : RI S m) {x y : Int} (hx : hv_R32 x) (hy : hv_R32 y) : Res (f_X10_head x y) (f_X11_head x y) r m := by
  obtain ⟨b, Rs, hb, hb1, hb2⟩ := ci_heaps hA hC
  have hc := hb2.ce
  obtain ⟨w1, w2⟩ := ar_wf hA
  refine op_tree hA hC hR hx hy (f_X10_head x y) (f_X11_head x y) (fun r1 m2 => hv_b (f_X10_heaps m2) (fun r3 m4 => hv_is 26 42 r3 (fun b5 => hv_b (f_X2_cells b5 m4) (fun r6 m7 => hv_is 27 43 r6 (fun b8 => hv_b (f_X1_turnOf b8 r1 m7) (fun r9 m10 => hv_b (f_X3_jobOfTurn r9 m10) (fun r11 m12 => hv_ret r11 m12))))))) (fun r1 m2 => hv_ald m2 72 8000 r1 (fun v3 => hv_ald m2 69 8000 v3 (fun v4 => hv_ret v4 m2))) (fun id => ((tn (ar S) id % 30 : Nat) : Int)) (fun _ => rfl) (fun _ => rfl) (fun id hT => ?_) (fun m2 G t id ht gt => ?_) (fun id hT => ?_)
  · have t3 := wf_tn w1 (hT id (by simp)).2.1
    have k1 : f_X1_turnOf (b + 1) (id : Int) m = some ((tn (ar S) id : Int), m) := ce_turn hc (hT id (by simp)).2.1
    show hv_b (f_X10_heaps m) _ = _
    rw [hb1, hp_b, hp_is hb (by omega)]
    show hv_b (some (((b + 1 : Nat) : Int), m)) _ = _
    rw [hp_b, cells_is hb, k1, hp_b]
    unfold f_X3_jobOfTurn
    rw [hp_rem (by omega)]; rfl
  · have t8 := ht.1.t8 gt
    obtain ⟨-, -, -, -, ⟨h, i72, iH⟩, itt, -⟩ := ht.1.2.2.2.2.2.2.2 t id gt
    have h8 := ht.1.h8 iH
    refine ⟨m2, ?_, FA.refl m2⟩
    show hv_ald m2 72 8000 (t : Int) _ = _
    rw [hp_ald (by omega) (by omega), Int.toNat_natCast, i72, hp_ald (by omega) (by omega), Int.toNat_natCast, (ht.1.2.2.2.2.2.2.1 h _ iH).2.2.2.1, ← itt]; rfl
  · show hv_R32 ((tn (ar S) id % 30 : Nat) : Int)
    omega
theorem op_depth (hA : AW S) (hC : CI S r m) (hR : RI S m) {x : Int} (hx : hv_R32 x) : Res (f_X10_depth x) (f_X11_depth x) r m := by
  have h30 := hA.1.1.1
  by_cases c : 0 ≤ x ∧ x < ((s_vs S).length : Int)
  · obtain ⟨j, ex, hj⟩ := is_nat c
    subst ex
    obtain ⟨b, Rs, hb, hb1, hb2⟩ := ci_heaps hA hC
    have hc := hb2.ce
    obtain ⟨w1, w2⟩ := ar_wf hA
    have tl : h_top (s_la S) (s_vs S) j < (ar S).length := ((hi_all hA.1.law 99 (s_vs S) hA.1.1).2.2.2.2 j hj).1.lt w1
    have t3 := wf_tn w1 tl
    have ho : f_X2_heapOf b (j : Int) m = some ((h_top (s_la S) (s_vs S) j : Int), m) := v_heapOf hb2 h30 hj
    have dd : f_X1_deepOf (b + 1) (h_top (s_la S) (s_vs S) j : Int) m = some ((n_deep (a_g (ar S) (h_top (s_la S) (s_vs S) j)) : Int), m) := ce_deep hc tl
    refine ask (v := (n_deep (a_g (ar S) (h_top (s_la S) (s_vs S) j)) : Int)) hA hR (same_c hC ?_) (fun m hm => ?_) (by omega)
    · unfold f_X10_depth
      rw [c_yes hA hC hx c, hb1, hp_b, hp_is hb (by omega)]
      show hv_b (some (((b + 1 : Nat) : Int), m)) _ = _
      rw [hp_b, cells_is hb, hb1, hp_b, hp_is hb (by omega), ho, hp_b, dd, hp_b]; rfl
    · obtain ⟨m1, G, a1, a2, a3⟩ := r_heapOf hA.1 hm hj
      obtain ⟨t1, t2, t3⟩ := a2.tb hA.1.1 hA.1.law hj
      refine ⟨m1, ?_, a3⟩
      unfold f_X11_depth
      rw [r_yes hA hm hx c, a1, hp_b, r_deepOf t3 a2.1 t1, hp_b]; rfl
  · refine ask (v := -2) hA hR (same_c hC ?_) (same_r (fun m hm => ?_)) (by decide)
    · unfold f_X10_depth; rw [c_not hA hC hx c]; rfl
    · unfold f_X11_depth; rw [r_not hA hm hx c]; rfl
end
