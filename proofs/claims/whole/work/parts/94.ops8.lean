/-! calls on both: acts taken back -/
section
variable {S : hS} {r : Nat} {m : hMem}
theorem RM.cut {us : List hVr} {v : hVr} {m m' : hMem} (h30 : (us ++ [v]).length ≤ 30) (h : RM (us ++ [v]) m) (e : ∀ j, j ≠ 2 → j ≠ 3 → m' 66 j = m 66 j) (e2 : m' 66 2 = (us.length : Int)) (e3 : m' 66 3 = (nput us : Int)) : RM us m' := by
  obtain ⟨h1, h2, h3, h4⟩ := h
  refine ⟨e2, e3, fun j u hu => ?_, fun j k c hj => ?_⟩
  · have hl : j < us.length := by
      rcases Nat.lt_or_ge j us.length with c | c
      · exact c
      · rw [List.getElem?_eq_none c] at hu; cases hu
    have g := h3 j u (by rw [List.getElem?_append_left hl]; exact hu)
    unfold Mv at g ⊢
    rw [e (6 + j) (by omega) (by omega), e (36 + j) (by omega) (by omega), e (66 + j) (by omega) (by omega), e (96 + j) (by omega) (by omega), e (186 + j) (by omega) (by omega)]
    rw [sz_app hl] at g
    exact g
  · rw [e (126 + j) (by omega) (by omega), e (156 + j) (by omega) (by omega)]
    exact h4 j k c (jl_px us v hj)
theorem r_back {us : List hVr} {v : hVr} {m : hMem} (hos : Os (us ++ [v])) (h : RM (us ++ [v]) m) : ∃ m', f_X11_takesBack m = some (0, m') ∧ RM us m' ∧ (∀ k, k ≠ 66 → m' k = m k) ∧ ∀ j, j ≠ 2 → j ≠ 3 → m' 66 j = m 66 j := by
  have h30 := hos.1
  have hl : (us ++ [v]).length = us.length + 1 := by rw [List.length_append]; rfl
  have nn := nput_le us
  have o3 := (ov_lt (os_snoc.mp hos).2.2).2.2
  have M1 : m 66 (6 + us.length) = (v_how v : Int) := (h.2.2.1 us.length v (by simp)).1
  have e2 : m 66 2 = ((us.length + 1 : Nat) : Int) := by rw [← hl]; exact h.1
  have e3 : m 66 3 = ((nput us + (if v_how v = 1 then 1 else 0) : Nat) : Int) := by rw [← nput_snoc]; exact h.2.1
  obtain ⟨m', em'⟩ : ∃ m' : hMem, m' = hv_up (hv_up m 66 2 (us.length : Int)) 66 3 (nput us : Int) := ⟨_, rfl⟩
  have o' : ∀ j, j ≠ 2 → j ≠ 3 → m' 66 j = m 66 j := fun j a b => by rw [em', hp_up_j _ _ _ b, hp_up_j _ _ _ a]
  refine ⟨m', ?_, h.cut h30 o' (by rw [em', hp_up_j _ _ _ (by omega), hp_up_same]) (by rw [em', hp_up_same]), fun k hk => by rw [em', hp_up_kk _ _ _ hk, hp_up_kk _ _ _ hk], o'⟩
  unfold f_X11_takesBack J_X11_takesBack_40
  rw [hp_ald (by decide) (by decide), show m 66 (2 : Int).toNat = ((us.length + 1 : Nat) : Int) from e2, hp_ast (by decide) (by decide), show (2 : Int).toNat = 2 from rfl, show ((us.length + 1 : Nat) : Int) - 1 = (us.length : Int) by omega]
  rw [hp_ald (by decide) (by decide), show hv_up m 66 2 (us.length : Int) 66 (3 : Int).toNat = ((nput us + (if v_how v = 1 then 1 else 0) : Nat) : Int) by rw [show (3 : Int).toNat = 3 from rfl, hp_up_j _ _ _ (by omega)]; exact e3]
  rw [hp_ald (by decide) (by decide), show hv_up m 66 2 (us.length : Int) 66 (2 : Int).toNat = (us.length : Int) by rw [show (2 : Int).toNat = 2 from rfl, hp_up_same]]
  rw [hp_ald (by omega) (by omega), show ((6 : Int) + (us.length : Int)).toNat = 6 + us.length by omega, hp_up_j _ _ _ (by omega), M1]
  by_cases c : v_how v = 1
  · rw [if_pos c, hp_eq_t (by omega) (by decide) (by omega), hp_ast (by decide) (by decide), show (3 : Int).toNat = 3 from rfl, show ((nput us + 1 : Nat) : Int) - 1 = (nput us : Int) by omega, ← em']
    rfl
  · rw [if_neg c, hp_eq_f (by omega) (by decide) (by omega), hp_ast (by decide) (by decide), show (3 : Int).toNat = 3 from rfl, show ((nput us + 0 : Nat) : Int) - 0 = (nput us : Int) by omega, ← em']
    rfl
theorem cut_c (hA : AW S) (hC : CI S r m) {n : Nat} (hn : n ≤ (s_vs S).length) : ∃ m', f_X10_cutTo (n : Int) m = some (0, m') ∧ CI (S.1, (s_vs S).take n, s_bs S, s_ff S) r m' ∧ FC m m' := by
  obtain ⟨i1, i2, i3, i4, ⟨R0, R1, i5⟩, i6, i7, i8, i9, i10, i11⟩ := hC
  obtain ⟨m', a1, a2, a3⟩ := c_cutTo (n := n) hA.1.1 i5 hn
  refine ⟨m', a1, ⟨by rw [a3 0 (by omega)]; exact i1, by rw [a3 0 (by omega)]; exact i2, by rw [a3 0 (by omega)]; exact i3, by rw [a3 0 (by omega)]; exact i4, ⟨R0, R1, a2⟩, i6.eq (a3 1 (by omega)) (a3 2 (by omega)), by rw [a3 3 (by omega)]; exact i7, by rw [a3 3 (by omega)]; exact i8, i9.eq (a3 10 (by omega)), by rw [a3 58 (by omega)]; exact i10, fun c hc => by rw [a3 59 (by omega)]; exact i11 c hc⟩, fun k hk => a3 k (by omega)⟩
theorem cut_aw (hA : AW S) {n : Nat} (hn : n ≤ (s_vs S).length) (ht : s_to S ≤ n) : AW (S.1, (s_vs S).take n, s_bs S, s_ff S) := by
  obtain ⟨⟨v1, v2, v3, v4, v5, v6, v7, v8, v9, v10, v11, v12⟩, v13, v14⟩ := hA
  refine ⟨⟨os_take v1 n, v2, v3, ?_, v5, v6, fun e => ?_, v8, v9, v10, v11, v12⟩, v13, v14⟩
  · show s_to S ≤ ((s_vs S).take n).length
    rw [List.length_take]
    omega
  · show (s_vs S).take n = []
    rw [v7 e, List.take_nil]
theorem ri_cut {n : Nat} {m' : hMem} (hm : RI S m) (hM : RM ((s_vs S).take n) m') (k : ∀ k, k ≠ 66 → m' k = m k) (j : ∀ j, j ≠ 2 → j ≠ 3 → m' 66 j = m 66 j) : RI (S.1, (s_vs S).take n, s_bs S, s_ff S) m' := by
  obtain ⟨h1, h2, h3, h4, h5, h6, h7, h8⟩ := hm
  exact ⟨by rw [j 0 (by omega) (by omega)]; exact h1, by rw [j 1 (by omega) (by omega)]; exact h2, by rw [j 4 (by omega) (by omega)]; exact h3, by rw [j 5 (by omega) (by omega)]; exact h4, hM, ⟨by rw [k 65 (by omega)]; exact h6.1, fun i hi => by rw [k 68 (by omega)]; exact h6.2 i hi⟩, by rw [k 65 (by omega)]; exact h7, by rw [k 65 (by omega)]; exact h8⟩
theorem take_back {vs : List hVr} {n : Nat} (h : n < vs.length) : ∃ v, vs.take (n + 1) = vs.take n ++ [v] := by
  obtain ⟨v, hv⟩ : ∃ v, vs[n]? = some v := ⟨_, List.getElem?_eq_getElem h⟩
  exact ⟨v, by rw [List.take_add_one, hv]; rfl⟩
theorem op_undo (hA : AW S) (hC : CI S r m) (hR : RI S m) : Res f_X10_undo f_X11_undo r m := by
  obtain ⟨-, -, i3, i4, -⟩ := id hC
  have l6 := hA.1.2.2.2.2.2.1
  have h30 := hA.1.1.1
  have tl := hA.1.2.2.2.1
  have t20 := hA.1.2.2.2.2.1
  by_cases c : s_li S = 0
  · refine ask (v := -2) hA hR (same_c hC ?_) (same_r (fun m hm => ?_)) (by decide)
    · unfold f_X10_undo; rw [i3, hp_eq_t (by omega) (by decide) (by omega)]; rfl
    · unfold f_X11_undo; rw [hp_ald (by decide) (by decide), show m 66 (5 : Int).toNat = (s_li S : Int) from hm.2.2.2.1, hp_eq_t (by omega) (by decide) (by omega)]; rfl
  · by_cases d : (s_vs S).length = s_to S
    · refine ask (v := -5) hA hR (same_c hC ?_) (same_r (fun m hm => ?_)) (by decide)
      · unfold f_X10_undo; rw [i3, hp_eq_f (by omega) (by decide) (by omega), ci_vs hC, hp_b, i4, hp_lt_f (by omega) (by omega) (by omega)]; rfl
      · unfold f_X11_undo; rw [hp_ald (by decide) (by decide), show m 66 (5 : Int).toNat = (s_li S : Int) from hm.2.2.2.1, hp_eq_f (by omega) (by decide) (by omega), hp_ald (by decide) (by decide), show m 66 (2 : Int).toNat = ((s_vs S).length : Int) from hm.2.2.2.2.1.1, hp_ald (by decide) (by decide), show m 66 (4 : Int).toNat = (s_to S : Int) from hm.2.2.1, hp_eq_t (by omega) (by omega) (by omega)]; rfl
    · obtain ⟨m1, a1, a2, a3⟩ := cut_c hA hC (n := (s_vs S).length - 1) (by omega)
      have hm := hR.fc a3
      obtain ⟨v, ev⟩ := take_back (vs := s_vs S) (n := (s_vs S).length - 1) (by omega)
      rw [show (s_vs S).length - 1 + 1 = (s_vs S).length by omega, List.take_length] at ev
      have hM := hm.2.2.2.2.1
      rw [ev] at hM
      obtain ⟨m2, b1, b2, b3, b4⟩ := r_back (by rw [← ev]; exact hA.1.1) hM
      have hl : ((s_vs S).take ((s_vs S).length - 1)).length = (s_vs S).length - 1 := by rw [List.length_take]; omega
      have R2 := ri_cut hm b2 b3 b4
      refine ⟨(((s_vs S).length - 1 : Nat) : Int) - (s_to S : Int), m1, m2, _, r, ?_, ?_, by omega, cut_aw hA (n := (s_vs S).length - 1) (by omega) (by omega), a2.fr (fun k hk => b3 k (by omega)), R2, by omega⟩
      · have i4' : m1 0 13 = (s_to S : Int) := a2.2.2.2.1
        have v1 : f_X6_versions m1 = some ((((s_vs S).length - 1 : Nat) : Int), m1) := by rw [← hl]; exact ci_vs a2
        unfold f_X10_undo
        rw [i3, hp_eq_f (by omega) (by decide) (by omega), ci_vs hC, hp_b, i4, hp_lt_t (by omega) (by omega) (by omega), ci_vs hC, hp_b, show ((s_vs S).length : Int) - 1 = (((s_vs S).length - 1 : Nat) : Int) by omega, a1, hp_b, v1, hp_b, i4']
        rfl
      · unfold f_X11_undo
        rw [hp_ald (by decide) (by decide), show m1 66 (5 : Int).toNat = (s_li S : Int) from hm.2.2.2.1, hp_eq_f (by omega) (by decide) (by omega), hp_ald (by decide) (by decide), show m1 66 (2 : Int).toNat = ((s_vs S).length : Int) from hm.2.2.2.2.1.1, hp_ald (by decide) (by decide), show m1 66 (4 : Int).toNat = (s_to S : Int) from hm.2.2.1, hp_eq_f (by omega) (by omega) (by omega), b1, hp_b, hp_ald (by decide) (by decide), show m2 66 (2 : Int).toNat = (((s_vs S).length - 1 : Nat) : Int) by rw [← hl]; exact b2.1, hp_ald (by decide) (by decide), show m2 66 (4 : Int).toNat = (s_to S : Int) from R2.2.2.1]
        rfl
theorem r_anewL {vs : List hVr} {t : Nat} {y : Int} (ho : Os vs) (ht : t ≤ 20) : ∀ (d n : Nat) (m : hMem), t + d ≤ vs.length → d < n → RM (vs.take (t + d)) m → m 66 4 = (t : Int) → ∃ m', L_X11_anew_26 n y m = some (y, m') ∧ RM (vs.take t) m' ∧ (∀ k, k ≠ 66 → m' k = m k) ∧ ∀ j, j ≠ 2 → j ≠ 3 → m' 66 j = m 66 j
  | _, 0, _, _, hn, _, _ => by omega
  | 0, n + 1, m, hd, hn, hM, h4 => by
    have h30 := ho.1
    have hl : (vs.take (t + 0)).length = t := by rw [List.length_take]; omega
    have e2 : m 66 2 = (t : Int) := by have := hM.1; rw [hl] at this; exact this
    refine ⟨m, ?_, hM, fun _ _ => rfl, fun _ _ _ => rfl⟩
    show B_X11_anew_26 (L_X11_anew_26 n) y m = _
    unfold B_X11_anew_26
    rw [hp_ald (by decide) (by decide), show m 66 (2 : Int).toNat = (t : Int) from e2, hp_ald (by decide) (by decide), show m 66 (4 : Int).toNat = (t : Int) from h4, hp_lt_f (by omega) (by omega) (by omega)]
    rfl
  | d + 1, n + 1, m, hd, hn, hM, h4 => by
    have h30 := ho.1
    have hl : (vs.take (t + (d + 1))).length = t + d + 1 := by rw [List.length_take]; omega
    have e2 : m 66 2 = ((t + d + 1 : Nat) : Int) := by have := hM.1; rw [hl] at this; exact this
    obtain ⟨v, ev⟩ := take_back (vs := vs) (n := t + d) (by omega)
    rw [show t + (d + 1) = t + d + 1 by omega, ev] at hM
    obtain ⟨m1, b1, b2, b3, b4⟩ := r_back (by rw [← ev]; exact os_take ho _) hM
    obtain ⟨m', c1, c2, c3, c4⟩ := r_anewL (y := y) ho ht d n m1 (by omega) (by omega) b2 (by rw [b4 4 (by omega) (by omega)]; exact h4)
    refine ⟨m', ?_, c2, fun k hk => by rw [c3 k hk, b3 k hk], fun j a b => by rw [c4 j a b, b4 j a b]⟩
    show B_X11_anew_26 (L_X11_anew_26 n) y m = _
    unfold B_X11_anew_26
    rw [hp_ald (by decide) (by decide), show m 66 (2 : Int).toNat = ((t + d + 1 : Nat) : Int) from e2, hp_ald (by decide) (by decide), show m 66 (4 : Int).toNat = (t : Int) from h4, hp_lt_t (by omega) (by omega) (by omega), b1, hp_b]
    exact c1
theorem op_anew (hA : AW S) (hC : CI S r m) (hR : RI S m) : Res f_X10_anew f_X11_anew r m := by
  obtain ⟨-, -, i3, i4, -⟩ := id hC
  have l6 := hA.1.2.2.2.2.2.1
  have h30 := hA.1.1.1
  have tl := hA.1.2.2.2.1
  have t20 := hA.1.2.2.2.2.1
  by_cases c : s_li S = 0
  · refine ask (v := -2) hA hR (same_c hC ?_) (same_r (fun m hm => ?_)) (by decide)
    · unfold f_X10_anew; rw [i3, hp_eq_t (by omega) (by decide) (by omega)]; rfl
    · unfold f_X11_anew; rw [hp_ald (by decide) (by decide), show m 66 (5 : Int).toNat = (s_li S : Int) from hm.2.2.2.1, hp_eq_t (by omega) (by decide) (by omega)]; rfl
  · obtain ⟨m1, a1, a2, a3⟩ := cut_c hA hC (n := s_to S) tl
    have hm := hR.fc a3
    obtain ⟨m2, b1, b2, b3, b4⟩ := r_anewL (vs := s_vs S) (t := s_to S) (y := ((s_vs S).length : Int) - (s_to S : Int)) hA.1.1 t20 ((s_vs S).length - s_to S) hv_FU m1 (by omega) (fu_lt (by omega)) (by rw [show s_to S + ((s_vs S).length - s_to S) = (s_vs S).length by omega, List.take_length]; exact hm.2.2.2.2.1) hm.2.2.1
    refine ⟨((s_vs S).length : Int) - (s_to S : Int), m1, m2, _, r, ?_, ?_, by omega, cut_aw hA (n := s_to S) tl (Nat.le_refl _), a2.fr (fun k hk => b3 k (by omega)), ri_cut hm b2 b3 b4, by omega⟩
    · unfold f_X10_anew
      rw [i3, hp_eq_f (by omega) (by decide) (by omega), ci_vs hC, hp_b, hp_set, i4, a1, hp_b]
      rfl
    · unfold f_X11_anew
      rw [hp_ald (by decide) (by decide), show m1 66 (5 : Int).toNat = (s_li S : Int) from hm.2.2.2.1, hp_eq_f (by omega) (by decide) (by omega), hp_ald (by decide) (by decide), show m1 66 (2 : Int).toNat = ((s_vs S).length : Int) from hm.2.2.2.2.1.1, hp_ald (by decide) (by decide), show m1 66 (4 : Int).toNat = (s_to S : Int) from hm.2.2.1, hp_set]
      exact b1
end
