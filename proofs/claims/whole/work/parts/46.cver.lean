/-! the class's heaps of all versions -/
def Cx (c : Nat) (A : hA) (R : Nat) (m : hMem) : Prop := 1 ≤ A.length ∧ 1 ≤ R ∧ A.length ≤ 864 ∧ R ≤ 2592 ∧ m (c + 8) 0 = 0 ∧ m (c + 9) 0 = 0 ∧ a_g A 0 = n_0 ∧ ∀ a, a < A.length → Nr c m R a (a_g A a)
theorem ce_cx {c : Nat} {A : hA} {R : Nat} {m : hMem} : Ce c A R m ↔ m c 9 = (A.length : Int) ∧ m c 10 = (R : Int) ∧ Cx c A R m := Iff.rfl
theorem Cx.ex {c : Nat} {A : hA} {R : Nat} {m m' : hMem} (h : Cx c A R m) (hE : Ex c A.length R m m') : Cx c A R m' := by
  obtain ⟨e3, e4, e5, e6, e7, e8, e9, e10⟩ := h
  exact ⟨e3, e4, e5, e6, by rw [(hE.1 0 (by omega)).1]; exact e7, by rw [(hE.1 0 (by omega)).2]; exact e8, e9, fun a ha => Nr.ex hE (Nat.le_refl _) ha (e10 a ha)⟩
theorem h_px {law : Nat} (hlaw : law = 0 ∨ law = 1) (w : Nat) (vs : List hVr) : Os vs → ∀ n, n ≤ vs.length → Px (h_all law w (vs.take n)).1 (h_all law w vs).1 ∧ ∀ j, j < n → (h_all law w (vs.take n)).2.1.getD j 0 = (h_all law w vs).2.1.getD j 0 ∧ (h_all law w (vs.take n)).2.2.getD j 0 = (h_all law w vs).2.2.getD j 0 := by
  refine snoc_ind (P := fun vs => Os vs → ∀ n, n ≤ vs.length → Px (h_all law w (vs.take n)).1 (h_all law w vs).1 ∧ ∀ j, j < n → (h_all law w (vs.take n)).2.1.getD j 0 = (h_all law w vs).2.1.getD j 0 ∧ (h_all law w (vs.take n)).2.2.getD j 0 = (h_all law w vs).2.2.getD j 0) ?_ ?_ vs
  · intro _ n hn
    simp only [List.length_nil] at hn
    have : n = 0 := by omega
    subst this
    exact ⟨Px.refl _, fun j hj => by omega⟩
  · intro vs v ih hos n hn
    obtain ⟨ho, h30, hv⟩ := os_snoc.mp hos
    rw [List.length_append] at hn
    have hn : n ≤ vs.length + 1 := hn
    by_cases c : n = vs.length + 1
    · have e : (vs ++ [v]).take n = vs ++ [v] := List.take_of_length_le (by rw [List.length_append, c]; exact Nat.le_refl _)
      rw [e]
      exact ⟨Px.refl _, fun j hj => ⟨rfl, rfl⟩⟩
    · have e : (vs ++ [v]).take n = vs.take n := List.take_append_of_le_length (by omega)
      rw [e]
      obtain ⟨g1, g2⟩ := ih ho n (by omega)
      obtain ⟨h1, h2, h3, h4, h5⟩ := hi_all hlaw w vs ho
      obtain ⟨⟨hb1, hb2⟩, -⟩ := bo_all w vs ho
      obtain ⟨k1, k2, k3, k4, k5⟩ := step_tb (w := w) (v := v) h1 hlaw h2 hb1 (fun j hj => ⟨(h5 j hj).1, (hb2 j hj).1, (hb2 j hj).2.2.2⟩) h30 hv
      have eh := h_snoc law w vs v
      have e1 : (h_all law w (vs ++ [v])).1 = (h_step law w (h_all law w vs) v).1 := by rw [eh]; rfl
      have e2 : (h_all law w (vs ++ [v])).2.1 = (h_all law w vs).2.1 ++ [(h_step law w (h_all law w vs) v).2.1] := by rw [eh]; rfl
      have e3 : (h_all law w (vs ++ [v])).2.2 = (h_all law w vs).2.2 ++ [(h_step law w (h_all law w vs) v).2.2] := by rw [eh]; rfl
      rw [e1, e2, e3]
      refine ⟨g1.trans k2, fun j hj => ?_⟩
      rw [getD_app _ _ _ (by omega), getD_app _ _ _ (by omega)]
      exact g2 j hj
def HR (b law : Nat) (vs : List hVr) (Rs : Nat → Nat) (m : hMem) : Prop :=
  m b 0 = (law : Int) ∧ m b 7 = (vs.length : Int) ∧ m (b + 1) 9 = ((h_all law 99 vs).1.length : Int) ∧ m (b + 1) 10 = (Rs vs.length : Int) ∧
  (∀ n, n ≤ vs.length → Cx (b + 1) (h_all law 99 (vs.take n)).1 (Rs n) m ∧ Rs n ≤ 1 + 46 * n) ∧ (∀ i j, i ≤ j → j ≤ vs.length → Rs i ≤ Rs j) ∧
  ∀ j, j < vs.length → m (b + 11) j = ((h_all law 99 vs).2.1.getD j 0 : Int) ∧ m (b + 12) j = ((h_all law 99 vs).2.2.getD j 0 : Int) ∧ m (b + 13) j = ((h_all law 99 (vs.take j)).1.length : Int) ∧ m (b + 14) j = (Rs j : Int)
theorem HR.ce {b law : Nat} {vs : List hVr} {Rs : Nat → Nat} {m : hMem} (h : HR b law vs Rs m) : Ce (b + 1) (h_all law 99 vs).1 (Rs vs.length) m := by
  have := (h.2.2.2.2.1 vs.length (Nat.le_refl _)).1
  rw [List.take_length] at this
  exact ⟨h.2.2.1, h.2.2.2.1, this⟩
def Fh (b : Nat) (m m' : hMem) : Prop := ∀ k, k < b ∨ b + 16 ≤ k → m' k = m k
theorem Fh.refl (b : Nat) (m : hMem) : Fh b m m := fun _ _ => rfl
theorem Fh.trans {b : Nat} {m1 m2 m3 : hMem} (h1 : Fh b m1 m2) (h2 : Fh b m2 m3) : Fh b m1 m3 := fun k hk => (h2 k hk).trans (h1 k hk)
theorem Fh.up {b k j : Nat} {v : Int} {m m1 : hMem} (h : Fh b m m1) (hk : b ≤ k ∧ k < b + 16) : Fh b m (hv_up m1 k j v) := fun q hq => by
  rw [hp_up_kk m1 j v (by omega)]; exact h q hq
theorem Fa.fh {b : Nat} {n : Int} {m m' : hMem} (h : Fa b n m m') : Fh b m m' := fun k hk => h.1 k (by omega)
theorem HR.eq {b law : Nat} {vs : List hVr} {Rs : Nat → Nat} {m m' : hMem} (h : HR b law vs Rs m) (e : ∀ k, b ≤ k → k < b + 16 → m' k = m k) : HR b law vs Rs m' := by
  obtain ⟨h1, h2, h3, h4, h5, h6, h7⟩ := h
  refine ⟨by rw [e b (by omega) (by omega)]; exact h1, by rw [e b (by omega) (by omega)]; exact h2, by rw [e _ (by omega) (by omega)]; exact h3, by rw [e _ (by omega) (by omega)]; exact h4, fun n hn => ⟨(h5 n hn).1.ex (Ex.of_eq fun k k1 k2 => e k (by omega) (by omega)), (h5 n hn).2⟩, h6, fun j hj => ?_⟩
  rw [e _ (by omega) (by omega), e _ (by omega) (by omega), e _ (by omega) (by omega), e _ (by omega) (by omega)]
  exact h7 j hj
theorem c_grow113 {b law : Nat} (hlaw : law = 0 ∨ law = 1) {vs : List hVr} {v : hVr} {Rs : Nat → Nat} {R' : Nat} {m m1 m2 : hMem} (hos : Os (vs ++ [v])) (h : HR b law vs Rs m) (em1 : m1 = hv_up (hv_up (hv_up m (b + 13) vs.length ((h_all law 99 vs).1.length : Int)) (b + 14) vs.length (Rs vs.length : Int)) b 8 0)
    (hR1 : Rs vs.length ≤ R') (hR2 : R' ≤ Rs vs.length + 46) (hc : Ce (b + 1) (h_step law 99 (h_all law 99 vs) v).1 R' m2) (hE : Ex (b + 1) (h_all law 99 vs).1.length (Rs vs.length) m1 m2) (hF : Fa b ((h_step law 99 (h_all law 99 vs) v).2.2 : Int) m1 m2) :
    ∃ m', J_X2_grow_113 b ((h_step law 99 (h_all law 99 vs) v).2.1 : Int) m2 = some (0, m') ∧ HR b law (vs ++ [v]) (fun j => if j = vs.length + 1 then R' else Rs j) m' ∧ Fh b m m' := by
  obtain ⟨ho, h30, hv⟩ := os_snoc.mp hos
  obtain ⟨h1, h2, h3, h4, h5, h6, h7⟩ := h
  have b7 : m2 b 7 = (vs.length : Int) := by rw [hF.b0 (by omega), em1, hp_up_j _ _ _ (by omega), hp_up_k _ _ _ _ (by omega), hp_up_k _ _ _ _ (by omega)]; exact h2
  have b8 : m2 b 8 = ((h_step law 99 (h_all law 99 vs) v).2.2 : Int) := by rw [hF.2.2, em1, hp_up_same]; omega
  have b0 : m2 b 0 = (law : Int) := by rw [hF.b0 (by omega), em1, hp_up_j _ _ _ (by omega), hp_up_k _ _ _ _ (by omega), hp_up_k _ _ _ _ (by omega)]; exact h1
  have eh := h_snoc law 99 vs v
  have e1 : (h_all law 99 (vs ++ [v])).1 = (h_step law 99 (h_all law 99 vs) v).1 := by rw [eh]; rfl
  have e2 : (h_all law 99 (vs ++ [v])).2.1 = (h_all law 99 vs).2.1 ++ [(h_step law 99 (h_all law 99 vs) v).2.1] := by rw [eh]; rfl
  have e3 : (h_all law 99 (vs ++ [v])).2.2 = (h_all law 99 vs).2.2 ++ [(h_step law 99 (h_all law 99 vs) v).2.2] := by rw [eh]; rfl
  obtain ⟨i1, i2, i3, i4, i5⟩ := hi_all hlaw 99 vs ho
  have hvl : (vs ++ [v]).length = vs.length + 1 := by rw [List.length_append]; rfl
  obtain ⟨m', em'⟩ : ∃ m' : hMem, m' = hv_up (hv_up (hv_up m2 (b + 11) vs.length ((h_step law 99 (h_all law 99 vs) v).2.1 : Int)) (b + 12) vs.length ((h_step law 99 (h_all law 99 vs) v).2.2 : Int)) b 7 ((vs.length : Int) + 1) := ⟨_, rfl⟩
  have hEm : ∀ n R, Ex (b + 1) n R m2 m' := fun n R => by
    rw [em']
    refine Ex.of_eq fun k k1 k2 => ?_
    rw [hp_up_kk _ _ _ (by omega), hp_up_kk _ _ _ (by omega), hp_up_kk _ _ _ (by omega)]
  have hE0 : ∀ n R, Ex (b + 1) n R m m1 := fun n R => by
    rw [em1]
    refine Ex.of_eq fun k k1 k2 => ?_
    rw [hp_up_kk _ _ _ (by omega), hp_up_kk _ _ _ (by omega), hp_up_kk _ _ _ (by omega)]
  have hEall : Ex (b + 1) (h_all law 99 vs).1.length (Rs vs.length) m m' := ((hE0 _ _).trans hE (Nat.le_refl _) (Nat.le_refl _)).trans (hEm _ _) (Nat.le_refl _) (Nat.le_refl _)
  refine ⟨m', ?_, ⟨?_, ?_, ?_, ?_, fun n hn => ?_, fun i j hij hj => ?_, fun j hj => ?_⟩, ?_⟩
  · unfold J_X2_grow_113
    have q1 : f_X10_set (b + 11) 30 (m2 b 7) ((h_step law 99 (h_all law 99 vs) v).2.1 : Int) m2 = some (0, hv_up m2 (b + 11) vs.length ((h_step law 99 (h_all law 99 vs) v).2.1 : Int)) := by
      rw [b7, fe_set (by omega) (by omega) (by omega), Int.toNat_natCast]
    rw [q1, hp_b]
    have q2 : hv_up m2 (b + 11) vs.length ((h_step law 99 (h_all law 99 vs) v).2.1 : Int) b 7 = (vs.length : Int) := by rw [hp_up_k _ _ _ _ (by omega)]; exact b7
    have q3 : hv_up m2 (b + 11) vs.length ((h_step law 99 (h_all law 99 vs) v).2.1 : Int) b 8 = ((h_step law 99 (h_all law 99 vs) v).2.2 : Int) := by rw [hp_up_k _ _ _ _ (by omega)]; exact b8
    rw [q2, q3, fe_set (by omega) (by omega) (by omega), Int.toNat_natCast, hp_b, hp_put, hp_up_k _ _ _ _ (by omega), q2, ← em']
    rfl
  · rw [em', hp_up_j _ _ _ (by omega), hp_up_k _ _ _ _ (by omega), hp_up_k _ _ _ _ (by omega)]; exact b0
  · rw [em', hp_up_same, hvl]; omega
  · rw [em', hp_up_k _ _ _ _ (by omega), hp_up_k _ _ _ _ (by omega), hp_up_k _ _ _ _ (by omega), e1]; exact hc.1
  · rw [em', hp_up_k _ _ _ _ (by omega), hp_up_k _ _ _ _ (by omega), hp_up_k _ _ _ _ (by omega), hvl]; simp only [if_true]; exact hc.2.1
  · rw [hvl] at hn
    by_cases c : n = vs.length + 1
    · simp only [if_pos c]
      rw [List.take_of_length_le (by omega), e1, c]
      refine ⟨(ce_cx.mp hc).2.2.ex (hEm _ _), ?_⟩
      have := (h5 vs.length (Nat.le_refl _)).2
      omega
    · simp only [if_neg c]
      rw [List.take_append_of_le_length (by omega)]
      obtain ⟨g1, g2⟩ := h5 n (by omega)
      refine ⟨g1.ex (hEall.mono ?_ (h6 n vs.length (by omega) (Nat.le_refl _))), g2⟩
      exact (h_px hlaw 99 vs ho n (by omega)).1.len
  · rw [hvl] at hj
    show (if i = vs.length + 1 then R' else Rs i) ≤ (if j = vs.length + 1 then R' else Rs j)
    by_cases cj : j = vs.length + 1
    · rw [if_pos cj]
      by_cases ci : i = vs.length + 1
      · rw [if_pos ci]; exact Nat.le_refl _
      · rw [if_neg ci]; exact Nat.le_trans (h6 i vs.length (by omega) (Nat.le_refl _)) hR1
    · rw [if_neg cj, if_neg (by omega)]; exact h6 i j hij (by omega)
  · rw [hvl] at hj
    rw [e2, e3]
    by_cases c : j < vs.length
    · rw [getD_app _ _ _ (by omega), getD_app _ _ _ (by omega), List.take_append_of_le_length (by omega)]
      simp only [if_neg (show j ≠ vs.length + 1 by omega)]
      have k11 : m2 (b + 11) j = m (b + 11) j := by rw [hF.1 (b + 11) (by omega), em1, hp_up_k _ _ _ _ (by omega), hp_up_k _ _ _ _ (by omega), hp_up_k _ _ _ _ (by omega)]
      have k12 : m2 (b + 12) j = m (b + 12) j := by rw [hF.1 (b + 12) (by omega), em1, hp_up_k _ _ _ _ (by omega), hp_up_k _ _ _ _ (by omega), hp_up_k _ _ _ _ (by omega)]
      have k13 : m2 (b + 13) j = m (b + 13) j := by rw [hF.1 (b + 13) (by omega), em1, hp_up_k _ _ _ _ (by omega), hp_up_k _ _ _ _ (by omega), hp_up_j _ _ _ (by omega)]
      have k14 : m2 (b + 14) j = m (b + 14) j := by rw [hF.1 (b + 14) (by omega), em1, hp_up_k _ _ _ _ (by omega), hp_up_j _ _ _ (by omega), hp_up_k _ _ _ _ (by omega)]
      obtain ⟨g1, g2, g3, g4⟩ := h7 j c
      rw [em']
      simp (disch := omega) only [hp_up_k, hp_up_j]
      rw [k11, k12, k13, k14]
      exact ⟨g1, g2, g3, g4⟩
    · have ej : j = vs.length := by omega
      have q1 : ((h_all law 99 vs).2.1 ++ [(h_step law 99 (h_all law 99 vs) v).2.1]).getD j 0 = (h_step law 99 (h_all law 99 vs) v).2.1 := by rw [ej, ← i2]; exact getD_snoc _ _ _
      have q2 : ((h_all law 99 vs).2.2 ++ [(h_step law 99 (h_all law 99 vs) v).2.2]).getD j 0 = (h_step law 99 (h_all law 99 vs) v).2.2 := by rw [ej, ← i3]; exact getD_snoc _ _ _
      have k13 : m2 (b + 13) j = ((h_all law 99 vs).1.length : Int) := by rw [hF.1 (b + 13) (by omega), em1, hp_up_k _ _ _ _ (by omega), hp_up_k _ _ _ _ (by omega), ej, hp_up_same]
      have k14 : m2 (b + 14) j = (Rs vs.length : Int) := by rw [hF.1 (b + 14) (by omega), em1, hp_up_k _ _ _ _ (by omega), ej, hp_up_same]
      rw [q1, q2]
      simp only [if_neg (show j ≠ vs.length + 1 by omega)]
      rw [ej, List.take_append_of_le_length (by omega), List.take_length]
      rw [ej] at k13 k14
      rw [em']
      simp (disch := omega) only [hp_up_k, hp_up_same]
      exact ⟨trivial, trivial, k13, k14⟩
  · have f1 : Fh b m m1 := by rw [em1]; exact (((Fh.refl b m).up (by omega)).up (by omega)).up (by omega)
    have f2 : Fh b m2 m' := by rw [em']; exact (((Fh.refl b m2).up (by omega)).up (by omega)).up (by omega)
    exact (f1.trans hF.fh).trans f2
theorem v_heapOf {b law : Nat} {vs : List hVr} {Rs : Nat → Nat} {m : hMem} (h : HR b law vs Rs m) (h30 : vs.length ≤ 30) {j : Nat} (hj : j < vs.length) : f_X2_heapOf b (j : Int) m = some (((h_all law 99 vs).2.1.getD j 0 : Int), m) := by
  unfold f_X2_heapOf
  rw [fe_at' (by omega) (by omega) (by omega), hp_b, Int.toNat_natCast, (h.2.2.2.2.2.2 j hj).1]
  rfl
theorem v_linksOf {b law : Nat} {vs : List hVr} {Rs : Nat → Nat} {m : hMem} (h : HR b law vs Rs m) (h30 : vs.length ≤ 30) {j : Nat} (hj : j < vs.length) : f_X2_linksOf b (j : Int) m = some (((h_all law 99 vs).2.2.getD j 0 : Int), m) := by
  unfold f_X2_linksOf
  rw [fe_at' (by omega) (by omega) (by omega), hp_b, Int.toNat_natCast, (h.2.2.2.2.2.2 j hj).2.1]
  rfl
/-- what the class's grow is called with -/
def Ga (v : hVr) (x1 x2 x3 x4 : Int) : Prop := x1 = (v_how v : Int) ∧ (v_how v ≠ 0 → x2 = (v_of v : Int)) ∧ (v_how v = 2 → x3 = (v_ot v : Int)) ∧ (v_how v = 1 → x4 = (v_tu v : Int))
theorem c_grow {b law : Nat} (hlaw : law = 0 ∨ law = 1) {vs : List hVr} {v : hVr} {Rs : Nat → Nat} {m : hMem} {x1 x2 x3 x4 : Int} (hos : Os (vs ++ [v])) (h : HR b law vs Rs m) (ga : Ga v x1 x2 x3 x4) :
    ∃ m' Rs', f_X2_grow b x1 x2 x3 x4 m = some (0, m') ∧ HR b law (vs ++ [v]) Rs' m' ∧ Fh b m m' := by
  obtain ⟨ho, h30, hv⟩ := os_snoc.mp hos
  obtain ⟨g1, g2, g3, g4⟩ := ga
  obtain ⟨i1, i2, i3, i4, i5⟩ := hi_all hlaw 99 vs ho
  obtain ⟨⟨hb1, hb2⟩, -⟩ := bo_all 99 vs ho
  have hc := h.ce
  have hRb := (h.2.2.2.2.1 vs.length (Nat.le_refl _)).2
  have h7 := h.2.1
  obtain ⟨m1, em1⟩ : ∃ m1 : hMem, m1 = hv_up (hv_up (hv_up m (b + 13) vs.length ((h_all law 99 vs).1.length : Int)) (b + 14) vs.length (Rs vs.length : Int)) b 8 0 := ⟨_, rfl⟩
  have e16 : ∀ k, b + 1 ≤ k → k < b + 13 → m1 k = m k := fun k k1 k2 => by
    rw [em1, hp_up_kk _ _ _ (by omega), hp_up_kk _ _ _ (by omega), hp_up_kk _ _ _ (by omega)]
  have hc1 : Ce (b + 1) (h_all law 99 vs).1 (Rs vs.length) m1 := hc.eq (fun k k1 k2 => e16 k (by omega) (by omega))
  have hb0 : m1 b 0 = (law : Int) := by rw [em1, hp_up_j _ _ _ (by omega), hp_up_k _ _ _ _ (by omega), hp_up_k _ _ _ _ (by omega)]; exact h.1
  have hOf : ∀ (mm : hMem), mm (b + 11) = m (b + 11) → ∀ j, j < vs.length → f_X2_heapOf b (j : Int) mm = some (((h_all law 99 vs).2.1.getD j 0 : Int), mm) := fun mm e j hj => by
    unfold f_X2_heapOf
    rw [fe_at' (by omega) (by omega) (by omega), hp_b, Int.toNat_natCast, e, (h.2.2.2.2.2.2 j hj).1]
    rfl
  have start : f_X2_grow b x1 x2 x3 x4 m = hv_eq x1 1 (hv_b (f_X1_heap (b + 1) x4 0 m1) (fun r20 m21 => hv_b (f_X2_heapOf b x2 m21) (fun r22 m23 => hv_b (f_X2_join b r20 r22 m23) (fun r24 m25 => J_X2_grow_113 b r24 m25)))) (hv_eq x1 2 (hv_b (f_X2_heapOf b x2 m1) (fun r14 m15 => hv_b (f_X2_heapOf b x3 m15) (fun r16 m17 => hv_b (f_X2_join b r14 r16 m17) (fun r18 m19 => J_X2_grow_113 b r18 m19)))) (hv_eq x1 3 (hv_b (f_X2_heapOf b x2 m1) (fun r10 m11 => hv_b (f_X2_take b r10 m11) (fun r12 m13 => J_X2_grow_113 b r12 m13))) (J_X2_grow_113 b 0 m1))) := by
    have q0 : f_X1_cells (b + 1) m = some (((h_all law 99 vs).1.length : Int), m) := by unfold f_X1_cells; rw [hc.1]; rfl
    have q1 : f_X1_rows (b + 1) (hv_up m (b + 13) vs.length ((h_all law 99 vs).1.length : Int)) = some ((Rs vs.length : Int), hv_up m (b + 13) vs.length ((h_all law 99 vs).1.length : Int)) := by unfold f_X1_rows; rw [hp_up_k _ _ _ _ (by omega), hc.2.1]; rfl
    unfold f_X2_grow
    rw [q0, hp_b, h7, fe_set (by omega) (by omega) (by omega), Int.toNat_natCast, hp_b, q1, hp_b, hp_up_k _ _ _ _ (by omega), h7, fe_set (by omega) (by omega) (by omega), Int.toNat_natCast, hp_b, hp_put, ← em1]
  rw [start]
  rcases hv with h0 | ⟨h1, ho1, ⟨k, hk, et⟩, t1, t2, hsz⟩ | ⟨h2, ho1, ho2, hsz⟩ | ⟨h3, ho1, hsz⟩
  · have es : h_step law 99 (h_all law 99 vs) v = ((h_all law 99 vs).1, 0, 0) := by simp [h_step, h0]
    rw [hp_eq_f (by omega) (by decide) (by omega), hp_eq_f (by omega) (by decide) (by omega), hp_eq_f (by omega) (by decide) (by omega)]
    obtain ⟨m', z1, z2, z3⟩ := c_grow113 (R' := Rs vs.length) (m2 := m1) hlaw hos h em1 (Nat.le_refl _) (by omega) (by rw [es]; exact hc1) (Ex.refl _ _ _ _) (by rw [es]; exact Fa.refl _ _)
    rw [es] at z1
    exact ⟨m', _, z1, z2, z3⟩
  · obtain ⟨ob1, ob2⟩ := i5 _ ho1
    have bl := (hb2 _ ho1).2.1
    have nn := nput_le vs
    obtain ⟨a1, a2⟩ := new_tb i1 (t := v_tu v) (by omega)
    have p := Px.snoc (h_all law 99 vs).1 (mkH (h_all law 99 vs).1 (h_all law 99 vs).1.length (v_tu v) [])
    have es : h_step law 99 (h_all law 99 vs) v = s_join law ((h_all law 99 vs).1 ++ [mkH (h_all law 99 vs).1 (h_all law 99 vs).1.length (v_tu v) []]) (h_all law 99 vs).1.length ((h_all law 99 vs).2.1.getD (v_of v) 0) := by
      unfold h_step
      rw [if_pos h1, if_neg (by omega)]
    obtain ⟨m2, n1, n2, n3, n4⟩ := ce_heap (t := v_tu v) (q := []) (k := 0) hc1 (by omega) rfl (fun x hx => by simp at hx) (by simp)
    have ob3 := ob1.px p
    have lt1 := ob3.len a1
    have l1 := a2.len a1
    rw [List.length_singleton] at l1
    have nb0 : m2 b 0 = (law : Int) := by rw [n4 b (by omega)]; exact hb0
    obtain ⟨m3, R3, j1, j2, j3, j4, j5, j6, j7⟩ := c_join (b := b) n2 a1 hlaw nb0 a2.or ob3.or (by omega) (by omega) (by rw [List.length_append, List.length_singleton]; omega)
    rw [← es] at j1 j4 j6 j7
    obtain ⟨m', z1, z2, z3⟩ := c_grow113 (R' := R3) (m2 := m3) hlaw hos h em1 (by omega) (by omega) j4 (n3.trans j5 (by rw [List.length_append]; omega) (by omega)) (((Fl.of_Fr n4).trans j6).cast (by omega)).fa
    refine ⟨m', _, ?_, z2, z3⟩
    rw [hp_eq_t (by omega) (by decide) (by omega), g4 h1, g2 (by omega), n1, hp_b, hOf m2 (by rw [n4 _ (by omega)]; exact e16 _ (by omega) (by omega)) _ ho1, hp_b, j1, hp_b]
    exact z1
  · obtain ⟨ob1, -⟩ := i5 _ ho1
    obtain ⟨oc1, -⟩ := i5 _ ho2
    have es : h_step law 99 (h_all law 99 vs) v = s_join law (h_all law 99 vs).1 ((h_all law 99 vs).2.1.getD (v_of v) 0) ((h_all law 99 vs).2.1.getD (v_ot v) 0) := by simp [h_step, h2]
    have l1 := ob1.len i1
    have l2 := oc1.len i1
    obtain ⟨m3, R3, j1, j2, j3, j4, j5, j6, j7⟩ := c_join (b := b) hc1 i1 hlaw hb0 ob1.or oc1.or (by omega) (by omega) (by omega)
    rw [← es] at j1 j4 j6 j7
    obtain ⟨m', z1, z2, z3⟩ := c_grow113 (R' := R3) (m2 := m3) hlaw hos h em1 (by omega) (by omega) j4 j5 j6.fa
    refine ⟨m', _, ?_, z2, z3⟩
    rw [hp_eq_f (by omega) (by decide) (by omega), hp_eq_t (by omega) (by decide) (by omega), g2 (by omega), g3 h2, hOf m1 (e16 _ (by omega) (by omega)) _ ho1, hp_b, hOf m1 (e16 _ (by omega) (by omega)) _ ho2, hp_b, j1, hp_b]
    exact z1
  · obtain ⟨ob1, -⟩ := i5 _ ho1
    have es : h_step law 99 (h_all law 99 vs) v = s_take law (h_all law 99 vs).1 ((h_all law 99 vs).2.1.getD (v_of v) 0) := by simp [h_step, h3]
    obtain ⟨m3, R3, j1, j2, j3, j4, j5, j6⟩ := c_take (b := b) hc1 i1 hlaw hb0 ob1.or (by omega) (by omega)
    rw [← es] at j1 j4 j6
    obtain ⟨m', z1, z2, z3⟩ := c_grow113 (R' := R3) (m2 := m3) hlaw hos h em1 (by omega) (by omega) j4 j5 j6
    refine ⟨m', _, ?_, z2, z3⟩
    rw [hp_eq_f (by omega) (by decide) (by omega), hp_eq_f (by omega) (by decide) (by omega), hp_eq_t (by omega) (by decide) (by omega), g2 (by omega), hOf m1 (e16 _ (by omega) (by omega)) _ ho1, hp_b, j1, hp_b]
    exact z1
theorem c_hcut {b law : Nat} (hlaw : law = 0 ∨ law = 1) {vs : List hVr} {Rs : Nat → Nat} {m : hMem} {n : Nat} (ho : Os vs) (h : HR b law vs Rs m) (hn : n ≤ vs.length) :
    ∃ m', f_X2_cut b (n : Int) m = some (0, m') ∧ HR b law (vs.take n) Rs m' ∧ Fh b m m' := by
  have h30 := ho.1
  have hh := h
  obtain ⟨h1, h2, h3, h4, h5, h6, h7⟩ := h
  unfold f_X2_cut
  rw [h2]
  by_cases c : n = vs.length
  · rw [hp_lt_f (by omega) (by omega) (by omega)]
    refine ⟨m, rfl, ?_, Fh.refl _ _⟩
    rw [c, List.take_length]
    exact hh
  · obtain ⟨g1, g2, g3, g4⟩ := h7 n (by omega)
    rw [hp_lt_t (by omega) (by omega) (by omega), fe_at' (by omega) (by omega) (by omega), hp_b, Int.toNat_natCast, g3, fe_at' (by omega) (by omega) (by omega), hp_b, Int.toNat_natCast, g4]
    have q : f_X1_cut (b + 1) ((h_all law 99 (vs.take n)).1.length : Int) (Rs n : Int) m = some (0, hv_up (hv_up m (b + 1) 9 ((h_all law 99 (vs.take n)).1.length : Int)) (b + 1) 10 (Rs n : Int)) := by
      unfold f_X1_cut
      rw [hp_put, hp_put]
      rfl
    rw [q, hp_b, hp_put]
    refine ⟨_, rfl, ?_, (((Fh.refl b m).up (by omega)).up (by omega)).up (by omega)⟩
    have hl : (vs.take n).length = n := by rw [List.length_take]; omega
    have hE : ∀ a R, Ex (b + 1) a R m (hv_up (hv_up (hv_up m (b + 1) 9 ((h_all law 99 (vs.take n)).1.length : Int)) (b + 1) 10 (Rs n : Int)) b 7 (n : Int)) := fun a R => by
      refine ⟨fun j _ => ⟨?_, ?_⟩, fun a _ i i1 i2 => ?_⟩
      · rw [hp_up_k _ _ _ _ (by omega), hp_up_k _ _ _ _ (by omega), hp_up_k _ _ _ _ (by omega)]
      · rw [hp_up_k _ _ _ _ (by omega), hp_up_k _ _ _ _ (by omega), hp_up_k _ _ _ _ (by omega)]
      · rw [hp_up_k _ _ _ _ (by omega), hp_up_k _ _ _ _ (by omega), hp_up_k _ _ _ _ (by omega)]
    refine ⟨?_, ?_, ?_, ?_, fun k hk => ?_, fun i j hij hj => h6 i j hij (by omega), fun j hj => ?_⟩
    · rw [hp_up_j _ _ _ (by omega), hp_up_k _ _ _ _ (by omega), hp_up_k _ _ _ _ (by omega)]; exact h1
    · rw [hp_up_same, hl]
    · rw [hp_up_k _ _ _ _ (by omega), hp_up_j _ _ _ (by omega), hp_up_same]
    · rw [hp_up_k _ _ _ _ (by omega), hp_up_same, hl]
    · rw [hl] at hk
      rw [List.take_take, Nat.min_eq_left hk]
      exact ⟨(h5 k (by omega)).1.ex (hE _ _), (h5 k (by omega)).2⟩
    · rw [hl] at hj
      obtain ⟨k1, k2, k3, k4⟩ := h7 j (by omega)
      obtain ⟨p1, p2⟩ := (h_px hlaw 99 vs ho n hn).2 j hj
      rw [p1, p2, List.take_take, Nat.min_eq_left (by omega)]
      simp (disch := omega) only [hp_up_k]
      exact ⟨k1, k2, k3, k4⟩
