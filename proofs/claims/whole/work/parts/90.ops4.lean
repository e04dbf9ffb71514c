/-! calls on both: links, draining, bags of two, roots -/
section
variable {S : hS} {r : Nat} {m : hMem}
def lks (law : Nat) (vs : List hVr) (j : Nat) : Nat := (h_all law 99 vs).2.2.getD j 0
theorem lks_le (hA : AW S) {law : Nat} (hlaw : law = 0 ∨ law = 1) {j : Nat} (hj : j < (s_vs S).length) : lks law (s_vs S) j ≤ 30 := ((hi_all hlaw 99 (s_vs S) hA.1.1).2.2.2.2 j hj).2
theorem ci_both (hC : CI S r m) : ∃ R0 R1, HR 26 0 (s_vs S) R0 m ∧ HR 42 1 (s_vs S) R1 m := by
  obtain ⟨-, -, -, -, ⟨R0, R1, i5⟩, -⟩ := hC
  exact ⟨R0, R1, i5.2.2.2.1, i5.2.2.2.2⟩
theorem r_by (hA : AW S) (hm : RI S m) {law : Nat} (hlaw : law = 0 ∨ law = 1) {j : Nat} (hj : j < (s_vs S).length) : ∃ m2, f_X11_by (law : Int) (j : Int) m = some ((lks law (s_vs S) j : Int), m2) ∧ FA m m2 := by
  have h30 := hA.1.1.1
  obtain ⟨m1, G, a1, a2, a3⟩ := r_mkAll hA.1 hm hlaw
  refine ⟨m1, ?_, a3⟩
  unfold f_X11_by
  rw [r_yes hA hm (by omega) ⟨by omega, by omega⟩, hp_rg (by omega), fe_in (by omega) (by decide) (by decide), hp_b, if_pos (by omega), hp_eq_f (by decide) (by decide) (by decide), a1, hp_b, hp_ald (by omega) (by omega), Int.toNat_natCast, (a2.2.2.2 j hj).2]
  rfl
theorem op_links (hA : AW S) (hC : CI S r m) (hR : RI S m) {x : Int} (hx : hv_R32 x) : Res (f_X10_links x) (f_X11_links x) r m := by
  have h30 := hA.1.1.1
  by_cases c : 0 ≤ x ∧ x < ((s_vs S).length : Int)
  · obtain ⟨j, ex, hj⟩ := is_nat c
    subst ex
    have ll := lks_le hA hA.1.law hj
    obtain ⟨b, Rs, hb, hb1, hb2⟩ := ci_heaps hA hC
    refine ask (v := (lks (s_la S) (s_vs S) j : Int)) hA hR (same_c hC ?_) (fun m hm => ?_) (by omega)
    · have lo : f_X2_linksOf b (j : Int) m = some ((lks (s_la S) (s_vs S) j : Int), m) := v_linksOf hb2 h30 hj
      unfold f_X10_links
      rw [c_yes hA hC hx c, hb1, hp_b, hp_is hb (by omega), lo, hp_b]; rfl
    · obtain ⟨m2, a1, a2⟩ := r_by hA hm hA.1.law hj
      refine ⟨m2, ?_, a2⟩
      unfold f_X11_links
      rw [r_yes hA hm hx c, hp_ald (by decide) (by decide), show m 66 (0 : Int).toNat = (s_la S : Int) from hm.1, a1, hp_b]; rfl
  · refine ask (v := -2) hA hR (same_c hC ?_) (same_r (fun m hm => ?_)) (by decide)
    · unfold f_X10_links; rw [c_not hA hC hx c]; rfl
    · unfold f_X11_links; rw [r_not hA hm hx c]; rfl
theorem op_by (hA : AW S) (hC : CI S r m) (hR : RI S m) {y x : Int} (hy : hv_R32 y) (hx : hv_R32 x) : Res (f_X10_by y x) (f_X11_by y x) r m := by
  have h30 := hA.1.1.1
  by_cases c : 0 ≤ x ∧ x < ((s_vs S).length : Int)
  · obtain ⟨j, ex, hj⟩ := is_nat c
    subst ex
    obtain ⟨R0, R1, h0, h1⟩ := ci_both hC
    by_cases cy : 0 ≤ y ∧ y ≤ 1
    · obtain ⟨law, ey⟩ : ∃ law : Nat, y = (law : Int) := ⟨y.toNat, by omega⟩
      subst ey
      have hlaw : law = 0 ∨ law = 1 := by omega
      have ll := lks_le hA hlaw hj
      refine ask (v := (lks law (s_vs S) j : Int)) hA hR (same_c hC ?_) (fun m hm => r_by hA hm hlaw hj) (by omega)
      unfold f_X10_by
      rw [c_yes hA hC hx c, hp_lt_f hy (by decide) (by omega), hp_lt_f (by decide) hy (by omega)]
      rcases hlaw with e | e
      · subst e
        have lo : f_X2_linksOf 26 (j : Int) m = some ((lks 0 (s_vs S) j : Int), m) := v_linksOf h0 h30 hj
        rw [hp_eq_t (b := 0) hy (by decide) (by omega), lo, hp_b]; rfl
      · subst e
        have lo : f_X2_linksOf 42 (j : Int) m = some ((lks 1 (s_vs S) j : Int), m) := v_linksOf h1 h30 hj
        rw [hp_eq_f hy (by decide) (by decide), lo, hp_b]; rfl
    · refine ask (v := -2) hA hR (same_c hC ?_) (same_r (fun m hm => ?_)) (by decide)
      · unfold f_X10_by
        rw [c_yes hA hC hx c]
        by_cases c0 : y < 0
        · rw [hp_lt_t hy (by decide) c0]; rfl
        · rw [hp_lt_f hy (by decide) (by omega), hp_lt_t (by decide) hy (by omega)]; rfl
      · unfold f_X11_by
        rw [r_yes hA hm hx c, hp_rg hy, fe_in hy (by decide) (by decide), hp_b, if_neg cy, hp_eq_t (by decide) (by decide) rfl]; rfl
  · refine ask (v := -2) hA hR (same_c hC ?_) (same_r (fun m hm => ?_)) (by decide)
    · unfold f_X10_by; rw [c_not hA hC hx c]; rfl
    · unfold f_X11_by; rw [r_not hA hm hx c]; rfl
theorem sumL_le : ∀ (l : List Nat), (∀ j, j < l.length → l.getD j 0 ≤ 30) → sumL l ≤ 30 * l.length
  | [], _ => Nat.le_refl _
  | x :: l, h => by
    have h0 : x ≤ 30 := h 0 (by simp)
    have := sumL_le l (fun j hj => h (j + 1) (by simp; omega))
    show x + sumL l ≤ 30 * (l.length + 1)
    omega
theorem sums_le (hA : AW S) {law : Nat} (hlaw : law = 0 ∨ law = 1) : sumL (h_all law 99 (s_vs S)).2.2 ≤ 900 := by
  have h30 := hA.1.1.1
  have h := hi_all hlaw 99 (s_vs S) hA.1.1
  have g := sumL_le (h_all law 99 (s_vs S)).2.2 (fun j hj => (h.2.2.2.2 j (by rw [h.2.2.1] at hj; exact hj)).2)
  rw [h.2.2.1] at g
  omega
theorem r_allL {law : Nat} {vs : List hVr} (h30 : vs.length ≤ 30) (hM : RM vs m) (ht : ∀ j, j < vs.length → m 78 j = ((h_all law 99 vs).2.2.getD j 0 : Int)) (hl : (h_all law 99 vs).2.2.length = vs.length) : ∀ (d n i s : Nat), i + d = vs.length → d < n → L_X11_allBy_10 n (s : Int) (i : Int) m = some (((s + sumL ((h_all law 99 vs).2.2.drop i) : Nat) : Int), m)
  | d, 0, _, _, _, hn => by omega
  | 0, n + 1, i, s, hi, hn => by
    rw [List.drop_eq_nil_of_le (by omega)]
    show B_X11_allBy_10 (L_X11_allBy_10 n) (s : Int) (i : Int) m = _
    unfold B_X11_allBy_10
    rw [hp_ald (by decide) (by decide), show m 66 (2 : Int).toNat = (vs.length : Int) from hM.1, hp_lt_f (by omega) (by omega) (by omega)]
    rfl
  | d + 1, n + 1, i, s, hi, hn => by
    have hd : (h_all law 99 vs).2.2.drop i = (h_all law 99 vs).2.2.getD i 0 :: (h_all law 99 vs).2.2.drop (i + 1) := by
      rw [List.drop_eq_getElem_cons (by omega), List.getD_eq_getElem?_getD, List.getElem?_eq_getElem (by omega)]
      rfl
    have g := r_allL (law := law) h30 hM ht hl d n (i + 1) (s + (h_all law 99 vs).2.2.getD i 0) (by omega) (by omega)
    show B_X11_allBy_10 (L_X11_allBy_10 n) (s : Int) (i : Int) m = _
    unfold B_X11_allBy_10
    rw [hp_ald (by decide) (by decide), show m 66 (2 : Int).toNat = (vs.length : Int) from hM.1, hp_lt_t (by omega) (by omega) (by omega), hp_ald (by omega) (by omega), Int.toNat_natCast, ht i (by omega), hp_set, hp_set, show (s : Int) + ((h_all law 99 vs).2.2.getD i 0 : Int) = ((s + (h_all law 99 vs).2.2.getD i 0 : Nat) : Int) by omega]
    refine Eq.trans g ?_
    rw [hd]
    show some (((s + (h_all law 99 vs).2.2.getD i 0 + sumL ((h_all law 99 vs).2.2.drop (i + 1)) : Nat) : Int), m) = some (((s + ((h_all law 99 vs).2.2.getD i 0 + sumL ((h_all law 99 vs).2.2.drop (i + 1))) : Nat) : Int), m)
    rw [Nat.add_assoc]
theorem r_allBy (hA : AW S) (hm : RI S m) {law : Nat} (hlaw : law = 0 ∨ law = 1) : ∃ m2, f_X11_allBy (law : Int) m = some ((sumL (h_all law 99 (s_vs S)).2.2 : Int), m2) ∧ FA m m2 := by
  have h30 := hA.1.1.1
  obtain ⟨m1, G, a1, a2, a3⟩ := r_mkAll hA.1 hm hlaw
  have g := r_allL (law := law) (m := m1) h30 a2.1.2.2.2.2.1 (fun j hj => (a2.2.2.2 j hj).2) (hi_all hlaw 99 (s_vs S) hA.1.1).2.2.1 (s_vs S).length hv_FU 0 0 (by omega) (fu_lt (by omega))
  rw [Nat.zero_add, List.drop_zero] at g
  refine ⟨m1, ?_, a3⟩
  unfold f_X11_allBy
  rw [a1, hp_b]
  exact g
theorem op_all (hA : AW S) (hC : CI S r m) (hR : RI S m) : Res f_X10_all f_X11_all r m := by
  obtain ⟨-, -, i3, -⟩ := id hC
  have l6 := hA.1.2.2.2.2.2.1
  by_cases c : s_li S = 0
  · refine ask (v := -2) hA hR (same_c hC ?_) (same_r (fun m hm => ?_)) (by decide)
    · unfold f_X10_all; rw [i3, hp_eq_t (by omega) (by decide) (by omega)]; rfl
    · unfold f_X11_all; rw [hp_ald (by decide) (by decide), show m 66 (5 : Int).toNat = (s_li S : Int) from hm.2.2.2.1, hp_lt_f (by decide) (by omega) (by omega)]; rfl
  · have sl := sums_le hA hA.1.law
    obtain ⟨b, Rs, hb, hb1, hb2⟩ := ci_heaps hA hC
    refine ask (v := (sumL (h_all (s_la S) 99 (s_vs S)).2.2 : Int)) hA hR (same_c hC ?_) (fun m hm => ?_) (by omega)
    · unfold f_X10_all
      rw [i3, hp_eq_f (by omega) (by decide) (by omega), hb1, hp_b, hp_is hb (by omega), v_linksOfAll hA.1.law hb2 hA.1.1, hp_b]; rfl
    · obtain ⟨m2, a1, a2⟩ := r_allBy hA hm hA.1.law
      refine ⟨m2, ?_, a2⟩
      unfold f_X11_all
      rw [hp_ald (by decide) (by decide), show m 66 (5 : Int).toNat = (s_li S : Int) from hm.2.2.2.1, hp_lt_t (by decide) (by omega) (by omega), hp_ald (by decide) (by decide), show m 66 (0 : Int).toNat = (s_la S : Int) from hm.1, a1, hp_b]; rfl
theorem op_lean (hA : AW S) (hC : CI S r m) (hR : RI S m) : Res f_X10_lean f_X11_lean r m := by
  obtain ⟨-, -, i3, -⟩ := id hC
  have l6 := hA.1.2.2.2.2.2.1
  by_cases c : s_li S = 0
  · refine ask (v := -2) hA hR (same_c hC ?_) (same_r (fun m hm => ?_)) (by decide)
    · unfold f_X10_lean; rw [i3, hp_eq_t (by omega) (by decide) (by omega)]; rfl
    · unfold f_X11_lean; rw [hp_ald (by decide) (by decide), show m 66 (5 : Int).toNat = (s_li S : Int) from hm.2.2.2.1, hp_eq_t (by omega) (by decide) (by omega)]; rfl
  · have s0 := sums_le hA (law := 0) (Or.inl rfl)
    have s1 := sums_le hA (law := 1) (Or.inr rfl)
    obtain ⟨R0, R1, h0, h1⟩ := ci_both hC
    refine ask (v := if sumL (h_all 1 99 (s_vs S)).2.2 < sumL (h_all 0 99 (s_vs S)).2.2 then 1 else 0) hA hR (same_c hC ?_) (fun m hm => ?_) (by split <;> decide)
    · unfold f_X10_lean
      rw [i3, hp_eq_f (by omega) (by decide) (by omega), v_linksOfAll (Or.inr rfl) h1 hA.1.1, hp_b, v_linksOfAll (Or.inl rfl) h0 hA.1.1, hp_b]
      by_cases cc : sumL (h_all 1 99 (s_vs S)).2.2 < sumL (h_all 0 99 (s_vs S)).2.2
      · rw [hp_lt_t (by omega) (by omega) (by omega), if_pos cc]; rfl
      · rw [hp_lt_f (by omega) (by omega) (by omega), if_neg cc]; rfl
    · obtain ⟨m2, a1, a2⟩ := r_allBy hA hm (law := 1) (Or.inr rfl)
      obtain ⟨m3, b1, b2⟩ := r_allBy hA (a2.ri hm) (law := 0) (Or.inl rfl)
      have a1 : f_X11_allBy 1 m = some ((sumL (h_all 1 99 (s_vs S)).2.2 : Int), m2) := a1
      have b1 : f_X11_allBy 0 m2 = some ((sumL (h_all 0 99 (s_vs S)).2.2 : Int), m3) := b1
      refine ⟨m3, ?_, a2.trans b2⟩
      unfold f_X11_lean
      rw [hp_ald (by decide) (by decide), show m 66 (5 : Int).toNat = (s_li S : Int) from hm.2.2.2.1, hp_eq_f (by omega) (by decide) (by omega), a1, hp_b, b1, hp_b]
      by_cases cc : sumL (h_all 1 99 (s_vs S)).2.2 < sumL (h_all 0 99 (s_vs S)).2.2
      · rw [hp_lt_t (by omega) (by omega) (by omega), if_pos cc]; rfl
      · rw [hp_lt_f (by omega) (by omega) (by omega), if_neg cc]; rfl
/-- the heaps of a law may be changed where they say the same -/
theorem CI.heaps {b : Nat} {Rs Rs' : Nat → Nat} {m' : hMem} (hA : AW S) (hC : CI S r m) (hb : b = 26 ∨ b = 42) (hb1 : HR b (s_la S) (s_vs S) Rs m) (h : HR b (s_la S) (s_vs S) Rs' m') (hF : Fh b m m') : CI S r m' := by
  obtain ⟨i1, i2, i3, i4, ⟨R0, R1, i5⟩, i6, i7, i8, i9, i10, i11⟩ := hC
  obtain ⟨j1, j2, j3, j4, j5⟩ := i5
  have hl := hA.1.2.1
  have k : ∀ k, k < 26 ∨ 58 ≤ k → m' k = m k := fun k hk => hF k (by omega)
  refine ⟨by rw [k 0 (by omega)]; exact i1, by rw [k 0 (by omega)]; exact i2, by rw [k 0 (by omega)]; exact i3, by rw [k 0 (by omega)]; exact i4, ?_, i6.eq (k 1 (by omega)) (k 2 (by omega)), by rw [k 3 (by omega)]; exact i7, by rw [k 3 (by omega)]; exact i8, i9.eq (k 10 (by omega)), by rw [k 58 (by omega)]; exact i10, fun c hc => by rw [k 59 (by omega)]; exact i11 c hc⟩
  have J : JR (s_vs S) m' := j1.eq (k 11 (by omega)) (k 12 (by omega)) (k 13 (by omega))
  have St : SR (s_vs S) m' := j2.eq (fun q q1 q2 => k q (by omega))
  have B : ∀ j, j < (s_vs S).length → Bg 20 m' j ((b_all 99 (s_vs S)).getD j []) := fun j hj => (j3 j hj).eq (k 21 (by omega)) (k 22 (by omega))
  rcases hb with e | e
  · subst e
    have h0 : (s_la S : Int) = 0 := by rw [← hb1.1, j4.1]; rfl
    have l0 : s_la S = 0 := by omega
    rw [l0] at h
    exact ⟨Rs', R1, J, St, B, h, j5.eq (fun q q1 q2 => hF q (by omega))⟩
  · subst e
    have h0 : (s_la S : Int) = 1 := by rw [← hb1.1, j5.1]; rfl
    have l0 : s_la S = 1 := by omega
    rw [l0] at h
    exact ⟨R0, Rs', J, St, B, j4.eq (fun q q1 q2 => hF q (by omega)), h⟩
def dr (S : hS) (j : Nat) : Nat × Nat := s_drain (s_la S) (bag (s_vs S) j).length (ar S) (h_top (s_la S) (s_vs S) j)
theorem drain_le {law : Nat} (hlaw : law = 0 ∨ law = 1) : ∀ (l : List Nat) {A : hA} {h : Nat}, Wf law A → Tb A h l → So l → (s_drain law l.length A h).1 ≤ 30 * l.length ∧ (s_drain law l.length A h).2 ≤ 30
  | [], _, _, _, _, _ => ⟨Nat.le_refl _, Nat.zero_le _⟩
  | t :: l, A, h, hw, hT, hs => by
    obtain ⟨k1, k2, k3, k4, k5⟩ := take_tb hw hlaw hT hs
    have g := drain_le hlaw l k1 k3 (List.pairwise_cons.mp hs).2
    show (s_take law A h).2.2 + (s_drain law l.length (s_take law A h).1 (s_take law A h).2.1).1 ≤ 30 * (l.length + 1) ∧ max (s_take law A h).2.2 (s_drain law l.length (s_take law A h).1 (s_take law A h).2.1).2 ≤ 30
    omega
theorem dr_le (hA : AW S) {j : Nat} (hj : j < (s_vs S).length) : (dr S j).1 ≤ 720 ∧ (dr S j).2 ≤ 30 := by
  obtain ⟨b1, b2, b3⟩ := bag_ok hA.1 hj
  have h := hi_all hA.1.law 99 (s_vs S) hA.1.1
  have g := drain_le hA.1.law (bag (s_vs S) j) h.1 (h.2.2.2.2 j hj).1 b1
  unfold dr ar h_top
  omega
theorem op_drain (hA : AW S) (hC : CI S r m) (hR : RI S m) {x : Int} (hx : hv_R32 x) : Res (f_X10_drain x) (f_X11_drain x) r m := by
  have h30 := hA.1.1.1
  by_cases c : 0 ≤ x ∧ x < ((s_vs S).length : Int)
  · obtain ⟨j, ex, hj⟩ := is_nat c
    subst ex
    have dl := dr_le hA hj
    obtain ⟨b, Rs, hb, hb1, hb2⟩ := ci_heaps hA hC
    obtain ⟨m1, d1, d2, d3, d4⟩ := c_drain hA.1.law hb2 hA.1.1 hj
    have d1 : f_X2_linksToEmpty b (j : Int) m = some (((dr S j).1 : Int), m1) := d1
    refine ask (v := ((dr S j).1 : Int)) hA hR ⟨m1, r, ?_, CI.heaps hA hC hb hb2 d3 d4, fun k hk => d4 k (by omega), by omega⟩ (fun m hm => ?_) (by omega)
    · unfold f_X10_drain
      rw [c_yes hA hC hx c, hb1, hp_b, hp_is hb (by omega), d1, hp_b]; rfl
    · obtain ⟨m2, a1, a2⟩ := r_drained hA.1 hm hj (x2 := 0) (Or.inl rfl)
      rw [if_pos rfl] at a1
      refine ⟨m2, ?_, a2⟩
      unfold f_X11_drain
      rw [r_yes hA hm hx c, a1, hp_b]; rfl
  · refine ask (v := -2) hA hR (same_c hC ?_) (same_r (fun m hm => ?_)) (by decide)
    · unfold f_X10_drain; rw [c_not hA hC hx c]; rfl
    · unfold f_X11_drain; rw [r_not hA hm hx c]; rfl
theorem op_dearest (hA : AW S) (hC : CI S r m) (hR : RI S m) {x : Int} (hx : hv_R32 x) : Res (f_X10_dearest x) (f_X11_dearest x) r m := by
  have h30 := hA.1.1.1
  by_cases c : 0 ≤ x ∧ x < ((s_vs S).length : Int)
  · obtain ⟨j, ex, hj⟩ := is_nat c
    subst ex
    have dl := dr_le hA hj
    obtain ⟨b, Rs, hb, hb1, hb2⟩ := ci_heaps hA hC
    obtain ⟨m1, d1, d2, d3, d4⟩ := c_drain hA.1.law hb2 hA.1.1 hj
    have d2 : m1 b 9 = ((dr S j).2 : Int) := d2
    refine ask (v := ((dr S j).2 : Int)) hA hR ⟨m1, r, ?_, CI.heaps hA hC hb hb2 d3 d4, fun k hk => d4 k (by omega), by omega⟩ (fun m hm => ?_) (by omega)
    · unfold f_X10_dearest f_X2_mostToEmpty
      rw [c_yes hA hC hx c, hb1, hp_b, hp_is hb (by omega), d1, hp_b, d2]; rfl
    · obtain ⟨m2, a1, a2⟩ := r_drained hA.1 hm hj (x2 := 1) (Or.inr rfl)
      rw [if_neg (by decide)] at a1
      refine ⟨m2, ?_, a2⟩
      unfold f_X11_dearest
      rw [r_yes hA hm hx c, a1, hp_b]; rfl
  · refine ask (v := -2) hA hR (same_c hC ?_) (same_r (fun m hm => ?_)) (by decide)
    · unfold f_X10_dearest; rw [c_not hA hC hx c]; rfl
    · unfold f_X11_dearest; rw [r_not hA hm hx c]; rfl
theorem c_exc (hA : AW S) (hC : CI S r m) {i j : Nat} (hi : i < (s_vs S).length) (hj : j < (s_vs S).length) : f_X0_excess 20 (i : Int) (j : Int) m = some ((exc (bag (s_vs S) i) (bag (s_vs S) j) : Int), m) := by
  have h30 := hA.1.1.1
  exact g_excess (by omega) (by omega) (ci_bag hC hi) (ci_bag hC hj)
theorem exc_24 (hA : AW S) {i : Nat} (hi : i < (s_vs S).length) (c : List Nat) : exc (bag (s_vs S) i) c ≤ 24 := Nat.le_trans (exc_le _ _) (bag_ok hA.1 hi).2.1
theorem op_same (hA : AW S) (hC : CI S r m) (hR : RI S m) {x y : Int} (hx : hv_R32 x) (hy : hv_R32 y) : Res (f_X10_same x y) (f_X11_same x y) r m := by
  by_cases c : 0 ≤ x ∧ x < ((s_vs S).length : Int)
  · obtain ⟨i, ex, hi⟩ := is_nat c
    subst ex
    by_cases d : 0 ≤ y ∧ y < ((s_vs S).length : Int)
    · obtain ⟨j, ey, hj⟩ := is_nat d
      subst ey
      have e1 := exc_24 hA hi (bag (s_vs S) j)
      have e2 := exc_24 hA hj (bag (s_vs S) i)
      refine ask (v := if exc (bag (s_vs S) i) (bag (s_vs S) j) = 0 ∧ exc (bag (s_vs S) j) (bag (s_vs S) i) = 0 then 1 else 0) hA hR (same_c hC ?_) (fun m hm => ?_) (by split <;> decide)
      · unfold f_X10_same
        rw [c_yes hA hC hx c, c_yes hA hC hy d, c_exc hA hC hi hj, hp_b]
        by_cases z1 : exc (bag (s_vs S) i) (bag (s_vs S) j) = 0
        · rw [hp_eq_t (by omega) (by decide) (by omega), c_exc hA hC hj hi, hp_b]
          by_cases z2 : exc (bag (s_vs S) j) (bag (s_vs S) i) = 0
          · rw [hp_eq_t (by omega) (by decide) (by omega), if_pos ⟨z1, z2⟩]; rfl
          · rw [hp_eq_f (by omega) (by decide) (by omega), if_neg (fun h => z2 h.2)]; rfl
        · rw [hp_eq_f (by omega) (by decide) (by omega), if_neg (fun h => z1 h.1)]; rfl
      · obtain ⟨m1, a1, a2⟩ := r_moreOf hA.1 hm hi hj
        obtain ⟨m2, b1, b2⟩ := r_moreOf hA.1 (a2.ri hm) hj hi
        unfold f_X11_same
        rw [r_yes hA hm hx c, r_yes hA hm hy d, a1, hp_b]
        by_cases z1 : exc (bag (s_vs S) i) (bag (s_vs S) j) = 0
        · refine ⟨m2, ?_, a2.trans b2⟩
          rw [hp_eq_t (by omega) (by decide) (by omega), b1, hp_b]
          by_cases z2 : exc (bag (s_vs S) j) (bag (s_vs S) i) = 0
          · rw [hp_eq_t (by omega) (by decide) (by omega), if_pos ⟨z1, z2⟩]; rfl
          · rw [hp_eq_f (by omega) (by decide) (by omega), if_neg (fun h => z2 h.2)]; rfl
        · refine ⟨m1, ?_, a2⟩
          rw [hp_eq_f (by omega) (by decide) (by omega), if_neg (fun h => z1 h.1)]; rfl
    · refine ask (v := -2) hA hR (same_c hC ?_) (same_r (fun m hm => ?_)) (by decide)
      · unfold f_X10_same; rw [c_yes hA hC hx c, c_not hA hC hy d]; rfl
      · unfold f_X11_same; rw [r_yes hA hm hx c, r_not hA hm hy d]; rfl
  · refine ask (v := -2) hA hR (same_c hC ?_) (same_r (fun m hm => ?_)) (by decide)
    · unfold f_X10_same; rw [c_not hA hC hx c]; rfl
    · unfold f_X11_same; rw [r_not hA hm hx c]; rfl
theorem op_more (hA : AW S) (hC : CI S r m) (hR : RI S m) {x y : Int} (hx : hv_R32 x) (hy : hv_R32 y) : Res (f_X10_more x y) (f_X11_more x y) r m := by
  by_cases c : 0 ≤ x ∧ x < ((s_vs S).length : Int)
  · obtain ⟨i, ex, hi⟩ := is_nat c
    subst ex
    by_cases d : 0 ≤ y ∧ y < ((s_vs S).length : Int)
    · obtain ⟨j, ey, hj⟩ := is_nat d
      subst ey
      have e1 := exc_24 hA hi (bag (s_vs S) j)
      refine ask (v := (exc (bag (s_vs S) i) (bag (s_vs S) j) : Int)) hA hR (same_c hC ?_) (fun m hm => ?_) (by omega)
      · unfold f_X10_more
        rw [c_yes hA hC hx c, c_yes hA hC hy d, c_exc hA hC hi hj, hp_b]; rfl
      · obtain ⟨m1, a1, a2⟩ := r_moreOf hA.1 hm hi hj
        refine ⟨m1, ?_, a2⟩
        unfold f_X11_more
        rw [r_yes hA hm hx c, r_yes hA hm hy d, a1, hp_b]; rfl
    · refine ask (v := -2) hA hR (same_c hC ?_) (same_r (fun m hm => ?_)) (by decide)
      · unfold f_X10_more; rw [c_yes hA hC hx c, c_not hA hC hy d]; rfl
      · unfold f_X11_more; rw [r_yes hA hm hx c, r_not hA hm hy d]; rfl
  · refine ask (v := -2) hA hR (same_c hC ?_) (same_r (fun m hm => ?_)) (by decide)
    · unfold f_X10_more; rw [c_not hA hC hx c]; rfl
    · unfold f_X11_more; rw [r_not hA hm hx c]; rfl
theorem op_from (hA : AW S) (hC : CI S r m) (hR : RI S m) {x y : Int} (hx : hv_R32 x) (hy : hv_R32 y) : Res (f_X10_from x y) (f_X11_from x y) r m := by
  have h30 := hA.1.1.1
  by_cases c : 0 ≤ x ∧ x < ((s_vs S).length : Int)
  · obtain ⟨i, ex, hi⟩ := is_nat c
    subst ex
    by_cases d : 0 ≤ y ∧ y < ((s_vs S).length : Int)
    · obtain ⟨j, ey, hj⟩ := is_nat d
      subst ey
      have rl : (r_all (s_vs S)).getD i 0 < 2 ^ 30 := Nat.lt_trans ((r_ok (s_vs S) hA.1.1).2 i hi) (pow_lt_pow (by omega))
      refine ask (v := if isF (s_vs S) i j then 1 else 0) hA hR (same_c hC ?_) (same_r (fun m hm => ?_)) (by split <;> decide)
      · unfold f_X10_from
        rw [c_yes hA hC hx c, c_yes hA hC hy d]
        by_cases e : i = j
        · rw [hp_eq_t hx hy (by omega), if_pos (by unfold isF; simp [e])]; rfl
        · rw [hp_eq_f hx hy (by omega)]
          unfold f_X6_madeOf
          rw [fe_at' (by omega) (by omega) (by omega), hp_b, Int.toNat_natCast, (ci_story hC).2.2 i hi]
          have ef : isF (s_vs S) i j = ((r_all (s_vs S)).getD i 0).testBit j := by unfold isF; rw [show decide (i = j) = false by simp [e]]; rfl
          have bm := bit_mask (a := (r_all (s_vs S)).getD i 0) (j := j) rl (by omega)
          have ar := hv_and_n (a := (r_all (s_vs S)).getD i 0) (b := 2 ^ j) (Nat.lt_trans rl (by decide)) (pow_lt_pow (by omega))
          have al : (r_all (s_vs S)).getD i 0 &&& 2 ^ j ≤ (r_all (s_vs S)).getD i 0 := Nat.and_le_left
          have bb : 0 ≤ hv_and ((r_all (s_vs S)).getD i 0 : Int) (hv_shl 1 (j : Int)) ∧ hv_and ((r_all (s_vs S)).getD i 0 : Int) (hv_shl 1 (j : Int)) < 1073741824 := by
            rw [hv_shl_n j (by omega), ar]
            have : (2 : Nat) ^ 30 = 1073741824 := by decide
            omega
          rw [ef]
          by_cases t : ((r_all (s_vs S)).getD i 0).testBit j = true
          · have nz : ¬ hv_and ((r_all (s_vs S)).getD i 0 : Int) (hv_shl 1 (j : Int)) = 0 := fun h => by
              have := bm.mp h
              rw [t] at this; cases this
            rw [hp_eq_f (by omega) (by decide) (by omega), hp_zr1, hp_b, hp_eq_f (by decide) (by decide) (by decide), if_pos t]; rfl
          · have tf : ((r_all (s_vs S)).getD i 0).testBit j = false := by simpa using t
            rw [hp_eq_t (by omega) (by decide) (bm.mpr tf), hp_zr0, hp_b, hp_eq_t (by decide) (by decide) rfl, if_neg t]; rfl
      · unfold f_X11_from
        rw [r_yes hA hm hx c, r_yes hA hm hy d, r_isFrom hA.1.1 hm.2.2.2.2.1 hi hj, hp_b]
        by_cases t : isF (s_vs S) i j = true
        · rw [if_pos t, hp_eq_f (by decide) (by decide) (by decide)]; rfl
        · rw [if_neg t, hp_eq_t (by decide) (by decide) rfl]; rfl
    · refine ask (v := -2) hA hR (same_c hC ?_) (same_r (fun m hm => ?_)) (by decide)
      · unfold f_X10_from; rw [c_yes hA hC hx c, c_not hA hC hy d]; rfl
      · unfold f_X11_from; rw [r_yes hA hm hx c, r_not hA hm hy d]; rfl
  · refine ask (v := -2) hA hR (same_c hC ?_) (same_r (fun m hm => ?_)) (by decide)
    · unfold f_X10_from; rw [c_not hA hC hx c]; rfl
    · unfold f_X11_from; rw [r_not hA hm hx c]; rfl
theorem op_roots (hA : AW S) (hC : CI S r m) (hR : RI S m) {x : Int} (hx : hv_R32 x) : Res (f_X10_roots x) (f_X11_roots x) r m := by
  have h30 := hA.1.1.1
  by_cases c : 0 ≤ x ∧ x < ((s_vs S).length : Int)
  · obtain ⟨i, ex, hi⟩ := is_nat c
    subst ex
    have ri := (r_ok (s_vs S) hA.1.1).2 i hi
    have rl : (r_all (s_vs S)).getD i 0 < 2 ^ 30 := Nat.lt_trans ri (pow_lt_pow (by omega))
    have e32 : pc ((r_all (s_vs S)).getD i 0) 32 = pc ((r_all (s_vs S)).getD i 0) i := by
      have := pc_out ri (32 - i)
      rw [show i + (32 - i) = 32 by omega] at this
      exact this
    have pl := pc_le ((r_all (s_vs S)).getD i 0) i
    refine ask (v := (pc ((r_all (s_vs S)).getD i 0) i : Int)) hA hR (same_c hC ?_) (same_r (fun m hm => ?_)) (by omega)
    · unfold f_X10_roots f_X6_rootsOf
      rw [c_yes hA hC hx c, fe_at' (by omega) (by omega) (by omega), hp_b, Int.toNat_natCast, (ci_story hC).2.2 i hi, c_bitCount rl, hp_b, e32]; rfl
    · have g := r_rootsL hA.1.1 hm.2.2.2.2.1 hi i hv_FU 0 0 (by omega) (fu_lt (by omega))
      rw [Nat.zero_add, Nat.zero_add] at g
      unfold f_X11_roots
      rw [r_yes hA hm hx c]
      exact g
  · refine ask (v := -2) hA hR (same_c hC ?_) (same_r (fun m hm => ?_)) (by decide)
    · unfold f_X10_roots; rw [c_not hA hC hx c]; rfl
    · unfold f_X11_roots; rw [r_not hA hm hx c]; rfl
end
