/-! the class's walk over a heap -/
theorem w_overL {law c : Nat} {A : hA} {R r : Nat} {P : Nat → Prop} (hr : r < 100000) (hc58 : c + 10 ≤ 58) (hw : Wf law A) (hP : ∀ x, P x → 0 < x → x < A.length → ∀ y ∈ ch A x, y ≠ 0 → P y) : ∀ (n k : Nat) (W : List Nat) (m : hMem), 864 < n + k → k ≤ W.length → Ce c A R m → Wk W r m → (∀ x ∈ W, x < A.length) → (∀ i, i < k → ∀ y ∈ ch A (W.getD i 0), y ≠ 0 → y ∈ W) → (∀ x ∈ W, P x) →
    ∃ m' W', L_X9_over_10 c n (k : Int) m = some (0, m') ∧ Wk W' r m' ∧ Fr 58 61 m m' ∧ (∀ x ∈ W, x ∈ W') ∧ (∀ x ∈ W', x < A.length ∧ P x) ∧ ∀ x ∈ W', ∀ y ∈ ch A x, y ≠ 0 → y ∈ W'
  | 0, k, W, m, hn, hk, h, hW, hWA, hcl, hWP => by
    have := nodup_lt hW.2.2.2.1 (fun x hx => (hW.2.2.2.2.1 x hx).2)
    omega
  | n + 1, k, W, m, hn, hk, h, hW, hWA, hcl, hWP => by
    have hWl := nodup_pos hW.2.2.2.1 (fun x hx => hW.2.2.2.2.1 x hx) (by omega)
    show ∃ m' W', B_X9_over_10 c (L_X9_over_10 c n) (k : Int) m = some (0, m') ∧ _
    unfold B_X9_over_10
    rw [hW.2.1]
    by_cases e : k = W.length
    · rw [hp_lt_f (by omega) (by omega) (by omega)]
      refine ⟨m, W, rfl, hW, Fr.refl _ _ _, fun x hx => hx, fun x hx => ⟨hWA x hx, hWP x hx⟩, fun x hx => ?_⟩
      obtain ⟨i, hi, ei⟩ := List.getElem_of_mem hx
      have := hcl i (by omega)
      rw [List.getD_eq_getElem?_getD, List.getElem?_eq_getElem hi, ei] at this
      exact this
    · have hkl : k < W.length := by omega
      obtain ⟨a, ha⟩ : ∃ a, a = W.getD k 0 := ⟨_, rfl⟩
      have haW : a ∈ W := by
        rw [ha, List.getD_eq_getElem?_getD, List.getElem?_eq_getElem hkl]
        exact List.getElem_mem hkl
      have haA := hWA a haW
      have ha0 := (hW.2.2.2.2.1 a haW).1
      have hch := ch_reach hw ha0 haA
      have hclA := h.lt
      have hq : ∀ x ∈ ch A a, x < A.length := fun x hx => by
        by_cases x0 : x = 0
        · omega
        · have := (hch x hx x0).2.1; omega
      have lens : (n_sg (a_g A a)).length ≤ 24 ∧ (n_bl (a_g A a)).length ≤ 24 := by
        have hb := (hw.2.2 a ha0 haA).2.1
        rcases (hw.2.2 a ha0 haA).1 with ⟨t, q, ee, hq2, -⟩ | ⟨r', y, sg, bl, ee, hh, hs, hb2, -⟩
        · have hqa : Al A.length q := fun z hz => ⟨(hq2 z hz).1, by have := (hq2 z hz).2.1; omega⟩
          have z1 := wf_len hw hqa
          have z2 := fm_len hw hqa
          rw [ee] at hb
          have hb : 1 + su A n_holds q ≤ 24 := hb
          rw [ee]
          exact ⟨by show ([] : List Nat).length ≤ 24; simp, by show q.length ≤ 24; omega⟩
        · have hsa : Al A.length sg := fun z hz => ⟨(hs z hz).1, by have := (hs z hz).2.1; omega⟩
          have hba : Al A.length bl := fun z hz => ⟨(hb2 z hz).1, by have := (hb2 z hz).2.1; omega⟩
          have z1 := wf_len hw hsa
          have z2 := fm_len hw hsa
          have z3 := wf_len hw hba
          have z4 := fm_len hw hba
          rw [ee] at hb
          have hb : n_holds (a_g A y) + su A n_holds sg + su A n_holds bl ≤ 24 := hb
          rw [ee]
          exact ⟨by show sg.length ≤ 24; omega, by show bl.length ≤ 24; omega⟩
      rw [hp_lt_t (by omega) (by omega) (by omega), hp_lt_t (by omega) (by decide) (by omega), fe_at' (by omega) (by omega) (by omega), hp_b, Int.toNat_natCast, hW.2.2.1 k hkl, ← ha, ce_head h haA, hp_b]
      have hdl : n_head (a_g A a) < A.length := hq _ (by unfold ch; simp)
      obtain ⟨m1, a1, a2, a3⟩ := w_meet (x := n_head (a_g A a)) hW (by omega) hr
      have h1 : Ce c A R m1 := h.eq (fun k k1 k2 => a3 k (by omega))
      obtain ⟨ks, s1, s2⟩ := ce_singles h1 haA
      obtain ⟨m2, b1, b2, b3⟩ := w_meetAllL (A := A) (R := R) hr hc58 (n_sg (a_g A a)) hv_FU 0 _ ks m1 (fu_lt (by omega)) (by omega) h1 s2 (fun x hx => by have := hq x (by unfold ch; simp [hx]); omega) a2
      have h2 : Ce c A R m2 := h1.eq (fun k k1 k2 => b3 k (by omega))
      obtain ⟨kb, t1, t2⟩ := ce_below h2 haA
      obtain ⟨m3, d1, d2, d3⟩ := w_meetAllL (A := A) (R := R) hr hc58 (n_bl (a_g A a)) hv_FU 0 _ kb m2 (fu_lt (by omega)) (by omega) h2 t2 (fun x hx => by have := hq x (by unfold ch; simp [hx]); omega) b2
      have h3 : Ce c A R m3 := h2.eq (fun k k1 k2 => d3 k (by omega))
      have eW : (n_bl (a_g A a)).foldl meetW ((n_sg (a_g A a)).foldl meetW (meetW W (n_head (a_g A a)))) = (ch A a).foldl meetW W := by
        unfold ch
        rw [List.foldl_cons, List.foldl_append]
      rw [eW] at d2
      obtain ⟨X, hX⟩ := meets_px (l := ch A a) (W := W)
      obtain ⟨m', W', g1, g2, g3, g4, g5, g6⟩ := w_overL hr hc58 hw hP n (k + 1) ((ch A a).foldl meetW W) m3 (by omega) (by rw [hX, List.length_append]; omega) h3 d2 (fun x hx => by
        rcases mem_meets.mp hx with hx | ⟨-, hx⟩
        · exact hWA x hx
        · exact hq x hx) (fun i hi y hy hy0 => by
        rw [hX] at hy
        have e1 : (W ++ X).getD i 0 = W.getD i 0 := by rw [List.getD_eq_getElem?_getD, List.getD_eq_getElem?_getD, List.getElem?_append_left (by omega)]
        rw [e1] at hy
        refine mem_meets.mpr ?_
        by_cases ei : i = k
        · rw [ei, ← ha] at hy
          exact Or.inr ⟨hy0, hy⟩
        · exact Or.inl (hcl i (by omega) y hy hy0)) (fun x hx => by
        rcases mem_meets.mp hx with hx | ⟨hx0, hx⟩
        · exact hWP x hx
        · exact hP a (hWP a haW) ha0 haA x hx hx0)
      refine ⟨m', W', ?_, g2, ((a3.trans b3).trans d3).trans g3, fun x hx => g4 x (mem_meets.mpr (Or.inl hx)), g5, g6⟩
      have B1 : f_X9_meetAll c ks m1 = some (0, m2) := b1
      have D1 : f_X9_meetAll c kb m2 = some (0, m3) := d1
      rw [a1, hp_b, s1, hp_b, B1, hp_b, t1, hp_b, D1, hp_b, hp_set]
      exact g1
/-- closed under what stands in a cell -/
def Cl (A : hA) (W : List Nat) : Prop := ∀ x ∈ W, x < A.length ∧ ∀ y ∈ ch A x, y ≠ 0 → y ∈ W
theorem w_over {law c : Nat} {A : hA} {R r : Nat} (hr : r < 100000) (hc58 : c + 10 ≤ 58) (hw : Wf law A) {W : List Nat} {h : Nat} {m : hMem} (hc : Ce c A R m) (hW : Wk W r m) (hcl : Cl A W) (hh : h < A.length) :
    ∃ m' W', f_X9_over c (h : Int) m = some (0, m') ∧ Wk W' r m' ∧ Fr 58 61 m m' ∧ Cl A W' ∧ ∀ x, x ∈ W' ↔ x ∈ W ∨ x ∈ n_reach (a_g A h) := by
  have hAl := hc.lt
  obtain ⟨m1, a1, a2, a3⟩ := w_meet (x := h) hW (by omega) hr
  have h1 : Ce c A R m1 := hc.eq (fun k k1 k2 => a3 k (by omega))
  have hPx : ∃ X, meetW W h = W ++ X := meets_px (l := [h])
  obtain ⟨X, hX⟩ := hPx
  have mm : ∀ x, x ∈ meetW W h ↔ x ∈ W ∨ (x ≠ 0 ∧ x ∈ [h]) := fun x => mem_meets (l := [h]) (W := W)
  have rch : ∀ x, x ∈ n_reach (a_g A h) → h ≠ 0 ∧ 0 < x ∧ x ≤ h ∧ ∀ y ∈ n_reach (a_g A x), y ∈ n_reach (a_g A h) := fun x hx => by
    by_cases h0 : h = 0
    · rw [h0, hw.2.1] at hx
      have hx : x ∈ ([] : List Nat) := hx
      simp at hx
    · exact ⟨h0, (hw.2.2 h (by omega) hh).2.2.2.2.2.2.2.1 x hx⟩
  obtain ⟨m', W', g1, g2, g3, g4, g5, g6⟩ := w_overL (P := fun x => x ∈ W ∨ x ∈ n_reach (a_g A h)) hr hc58 hw (fun x hx x0 xA y hy hy0 => by
    rcases hx with hx | hx
    · exact Or.inl ((hcl x hx).2 y hy hy0)
    · exact Or.inr ((rch x hx).2.2.2 y (ch_reach hw x0 xA y hy hy0).2.2)) hv_FU W.length (meetW W h) m1 (by show 864 < 1000000 + _; omega) (by rw [hX, List.length_append]; omega) h1 a2 (fun x hx => by
    rcases (mm x).mp hx with hx | ⟨-, hx⟩
    · exact (hcl x hx).1
    · simp at hx; omega) (fun i hi y hy hy0 => by
    rw [hX] at hy
    have e1 : (W ++ X).getD i 0 = W.getD i 0 := by rw [List.getD_eq_getElem?_getD, List.getD_eq_getElem?_getD, List.getElem?_append_left (by omega)]
    have hiW : W.getD i 0 ∈ W := by
      rw [List.getD_eq_getElem?_getD, List.getElem?_eq_getElem hi]
      exact List.getElem_mem hi
    rw [e1] at hy
    exact (mm y).mpr (Or.inl ((hcl _ hiW).2 y hy hy0))) (fun x hx => by
    rcases (mm x).mp hx with hx | ⟨hx0, hx⟩
    · exact Or.inl hx
    · simp at hx
      rw [hx] at hx0 ⊢
      exact Or.inr (hw.2.2 h (by omega) hh).2.2.2.2.2.2.2.2)
  refine ⟨m', W', ?_, g2, a3.trans g3, fun x hx => ⟨(g5 x hx).1, g6 x hx⟩, fun x => ⟨fun hx => (g5 x hx).2, fun hx => ?_⟩⟩
  · unfold f_X9_over
    rw [hp_set, a1, hp_b, hW.2.1]
    exact g1
  · rcases hx with hx | hx
    · exact g4 x ((mm x).mpr (Or.inl hx))
    · obtain ⟨h0, x0, xh, -⟩ := rch x hx
      have hhW : h ∈ W' := g4 h ((mm h).mpr (Or.inr ⟨h0, by simp⟩))
      exact reach_sub hw (X := fun x => x ∈ W') (fun a ha a0 aA y hy hy0 => g6 a ha y hy hy0) (h + 1) h (by omega) (by omega) hh hhW x hx
theorem w_begin {W : List Nat} {r : Nat} {m : hMem} (h7 : ∀ c, c < 864 → 0 ≤ m 59 c ∧ m 59 c ≤ (r : Int)) (h2 : m 58 2 = (r : Int)) : ∃ m', f_X9_begin m = some (0, m') ∧ Wk [] (r + 1) m' ∧ Fr 58 61 m m' := by
  unfold f_X9_begin
  rw [hp_put, hp_put, h2]
  refine ⟨_, rfl, ⟨?_, ?_, fun i hi => by simp at hi, List.nodup_nil, fun c hc => by simp at hc, fun c hc h0 => ?_, fun c hc => ?_⟩, (((Fr.refl _ _ _).up (by omega)).up (by omega))⟩
  · rw [hp_up_j _ _ _ (by omega), hp_up_same]; omega
  · rw [hp_up_same]; rfl
  · rw [hp_up_k _ _ _ _ (by omega), hp_up_k _ _ _ _ (by omega)]
    have := h7 c hc
    constructor
    · intro e; omega
    · intro e; simp at e
  · rw [hp_up_k _ _ _ _ (by omega), hp_up_k _ _ _ _ (by omega)]
    have := h7 c hc
    omega
