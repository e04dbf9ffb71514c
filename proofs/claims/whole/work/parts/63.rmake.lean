/-! the reference: a version more -/
theorem r_makes {vs : List hVr} {v : hVr} {m : hMem} {x1 x2 x3 x4 x5 : Int} (hos : Os (vs ++ [v])) (h : RM vs m) (gb : Gb v x1 x2 x3) (hk : v_how v = 1 → x4 = ((v_tu v / 30 : Nat) : Int) ∧ x5 = (v_ti v : Int)) :
    ∃ m', f_X11_makes x1 x2 x3 x4 x5 m = some (0, m') ∧ RM (vs ++ [v]) m' ∧ (∀ k, k ≠ 66 → m' k = m k) ∧ ∀ j, j = 0 ∨ j = 1 ∨ j = 4 ∨ j = 5 → m' 66 j = m 66 j := by
  obtain ⟨ho, h30, hv⟩ := os_snoc.mp hos
  obtain ⟨l1, l2, l3⟩ := ov_lt hv
  obtain ⟨g1, g2, g3⟩ := gb
  obtain ⟨h1, h2, h3, h4⟩ := h
  have nn := nput_le vs
  have hvl : (vs ++ [v]).length = vs.length + 1 := by rw [List.length_append]; rfl
  have szn := sz_new (v := v) h30
  have szo : ∀ j, j < vs.length → ∀ mm : hMem, mm 66 (186 + j) = m 66 (186 + j) → mm 66 (186 + j) = (sz vs j : Int) := fun j hj mm e => by
    obtain ⟨u, hu⟩ : ∃ u, vs[j]? = some u := ⟨_, List.getElem?_eq_getElem hj⟩
    rw [e]; exact (h3 j u hu).2.2.2.2
  -- behind the first five
  obtain ⟨m4, em4⟩ : ∃ m4 : hMem, m4 = hv_up (hv_up (hv_up (hv_up m 66 (6 + vs.length) x1) 66 (36 + vs.length) x2) 66 (66 + vs.length) x3) 66 (96 + vs.length) (-1) := ⟨_, rfl⟩
  have start : f_X11_makes x1 x2 x3 x4 x5 m = J_X11_makes_109 x1 x4 x5 (vs.length : Int) (186 + (vs.length : Int)) (sz (vs ++ [v]) vs.length : Int) m4 := by
    unfold f_X11_makes
    rw [hp_ald (by decide) (by decide)]
    rw [show m 66 (2 : Int).toNat = (vs.length : Int) from h1]
    rw [hp_ast (by omega) (by omega), hp_ast (by omega) (by omega), hp_ast (by omega) (by omega), hp_ast (by omega) (by omega)]
    rw [show ((6 : Int) + (vs.length : Int)).toNat = 6 + vs.length by omega, show ((36 : Int) + (vs.length : Int)).toNat = 36 + vs.length by omega, show ((66 : Int) + (vs.length : Int)).toNat = 66 + vs.length by omega, show ((96 : Int) + (vs.length : Int)).toNat = 96 + vs.length by omega, ← em4]
    unfold J_X11_makes_108
    rcases hv with h0 | ⟨c1, ho1, -⟩ | ⟨c2, ho1, ho2, -⟩ | ⟨c3, ho1, hsz⟩
    · rw [hp_eq_t (by omega) (by decide) (by omega), szn, if_neg (by omega), if_neg (by omega), if_neg (by omega)]
      rfl
    · have o1 := szo _ ho1 m4 (by rw [em4]; simp (disch := omega) only [hp_up_j])
      rw [hp_eq_f (by omega) (by decide) (by omega), g2, if_neg (by omega), hp_ald (by omega) (by omega), show ((186 : Int) + (v_of v : Int)).toNat = 186 + v_of v by omega, o1, hp_eq_t (by omega) (by decide) (by omega), szn, if_pos c1]
      rfl
    · have o1 := szo _ ho1 m4 (by rw [em4]; simp (disch := omega) only [hp_up_j])
      have o2 := szo _ ho2 m4 (by rw [em4]; simp (disch := omega) only [hp_up_j])
      rw [hp_eq_f (by omega) (by decide) (by omega), g2, if_neg (by omega), hp_ald (by omega) (by omega), show ((186 : Int) + (v_of v : Int)).toNat = 186 + v_of v by omega, o1, hp_eq_f (by omega) (by decide) (by omega), hp_eq_f (by omega) (by decide) (by omega), g3, if_pos c2, hp_ald (by omega) (by omega), show ((186 : Int) + (v_ot v : Int)).toNat = 186 + v_ot v by omega, o2, szn, if_neg (by omega), if_pos c2]
      rfl
    · have o1 := szo _ ho1 m4 (by rw [em4]; simp (disch := omega) only [hp_up_j])
      have hsz : 1 ≤ sz vs (v_of v) := hsz
      rw [hp_eq_f (by omega) (by decide) (by omega), g2, if_neg (by omega), hp_ald (by omega) (by omega), show ((186 : Int) + (v_of v : Int)).toNat = 186 + v_of v by omega, o1, hp_eq_f (by omega) (by decide) (by omega), hp_eq_t (by omega) (by decide) (by omega), szn, if_neg (by omega), if_neg (by omega), if_pos c3]
      rw [show ((sz vs (v_of v) - 1 : Nat) : Int) = (sz vs (v_of v) : Int) + (-1) by omega]
  obtain ⟨m5, em5⟩ : ∃ m5 : hMem, m5 = hv_up m4 66 (186 + vs.length) (sz (vs ++ [v]) vs.length : Int) := ⟨_, rfl⟩
  have old5 : ∀ j, (∀ b, b = 6 ∨ b = 36 ∨ b = 66 ∨ b = 96 ∨ b = 186 → j ≠ b + vs.length) → m5 66 j = m 66 j := fun j hj => by
    have a1 := hj 6 (by omega)
    have a2 := hj 36 (by omega)
    have a3 := hj 66 (by omega)
    have a4 := hj 96 (by omega)
    have a5 := hj 186 (by omega)
    rw [em5, em4, hp_up_j _ _ _ a5, hp_up_j _ _ _ a4, hp_up_j _ _ _ a3, hp_up_j _ _ _ a2, hp_up_j _ _ _ a1]
  have new5 : m5 66 (6 + vs.length) = x1 ∧ m5 66 (36 + vs.length) = x2 ∧ m5 66 (66 + vs.length) = x3 ∧ m5 66 (96 + vs.length) = -1 ∧ m5 66 (186 + vs.length) = (sz (vs ++ [v]) vs.length : Int) := by
    rw [em5, em4]
    simp (disch := omega) only [hp_up_j, hp_up_same]
    exact ⟨trivial, trivial, trivial, trivial, trivial⟩
  have kk5 : ∀ k, k ≠ 66 → m5 k = m k := fun k hk => by rw [em5, em4, hp_up_kk _ _ _ hk, hp_up_kk _ _ _ hk, hp_up_kk _ _ _ hk, hp_up_kk _ _ _ hk, hp_up_kk _ _ _ hk]
  rw [start]
  unfold J_X11_makes_109 J_X11_makes_174
  rw [hp_ast (by omega) (by omega), show ((186 : Int) + (vs.length : Int)).toNat = 186 + vs.length by omega, ← em5]
  have mvOld : ∀ (m' : hMem), (∀ j, j ≠ 2 → j ≠ 3 → j ≠ 96 + vs.length → j ≠ 126 + nput vs → j ≠ 156 + nput vs → m' 66 j = m5 66 j) → ∀ j u, j < vs.length → vs[j]? = some u → Mv (vs ++ [v]) j u m' := fun m' hm' j u hj hu => by
    obtain ⟨q1, q2, q3, q4, q5⟩ := h3 j u hu
    unfold Mv
    rw [sz_app hj]
    refine ⟨?_, ?_, ?_, ?_, ?_⟩
    · rw [hm' _ (by omega) (by omega) (by omega) (by omega) (by omega), old5 _ (fun b hb => by omega)]; exact q1
    · rw [hm' _ (by omega) (by omega) (by omega) (by omega) (by omega), old5 _ (fun b hb => by omega)]; exact q2
    · rw [hm' _ (by omega) (by omega) (by omega) (by omega) (by omega), old5 _ (fun b hb => by omega)]; exact q3
    · rw [hm' _ (by omega) (by omega) (by omega) (by omega) (by omega), old5 _ (fun b hb => by omega)]; exact q4
    · rw [hm' _ (by omega) (by omega) (by omega) (by omega) (by omega), old5 _ (fun b hb => by omega)]; exact q5
  have getNew : ∀ j u, (vs ++ [v])[j]? = some u → (j < vs.length ∧ vs[j]? = some u) ∨ (j = vs.length ∧ u = v) := fun j u hu => by
    by_cases c : j < vs.length
    · rw [List.getElem?_append_left c] at hu; exact Or.inl ⟨c, hu⟩
    · have ej : j = vs.length := by
        rcases Nat.lt_or_ge j (vs.length + 1) with c | c
        · omega
        · rw [List.getElem?_eq_none (by omega)] at hu; cases hu
      subst ej
      simp at hu
      exact Or.inr ⟨rfl, hu.symm⟩
  by_cases c1 : v_how v = 1
  · obtain ⟨k, hk9, et⟩ : ∃ k, k ≤ 999 ∧ v_tu v = k * 30 + nput vs := by
      rcases hv with h0 | ⟨_, _, r, _⟩ | ⟨h2, -⟩ | ⟨h3, -⟩
      · omega
      · exact r
      · omega
      · omega
    obtain ⟨hx4, hx5⟩ := hk c1
    have e3 : m5 66 3 = (nput vs : Int) := by rw [old5 3 (fun b hb => by omega)]; exact h2
    obtain ⟨m', em'⟩ : ∃ m' : hMem, m' = hv_up (hv_up (hv_up (hv_up (hv_up m5 66 (96 + vs.length) (nput vs : Int)) 66 (126 + nput vs) x4) 66 (156 + nput vs) x5) 66 3 ((nput vs : Int) + 1)) 66 2 ((vs.length : Int) + 1) := ⟨_, rfl⟩
    have hm' : ∀ j, j ≠ 2 → j ≠ 3 → j ≠ 96 + vs.length → j ≠ 126 + nput vs → j ≠ 156 + nput vs → m' 66 j = m5 66 j := fun j a b c d e => by
      rw [em', hp_up_j _ _ _ a, hp_up_j _ _ _ b, hp_up_j _ _ _ e, hp_up_j _ _ _ d, hp_up_j _ _ _ c]
    refine ⟨m', ?_, ⟨?_, ?_, fun j u hu => ?_, fun j k' c' hj => ?_⟩, fun k hk => ?_, fun j hj => ?_⟩
    · rw [hp_eq_t (by omega) (by decide) (by omega), hp_ald (by decide) (by decide), show m5 66 (3 : Int).toNat = (nput vs : Int) from e3, hp_ast (by omega) (by omega), show ((96 : Int) + (vs.length : Int)).toNat = 96 + vs.length by omega]
      rw [hp_ald (by decide) (by decide), show hv_up m5 66 (96 + vs.length) (nput vs : Int) 66 (3 : Int).toNat = (nput vs : Int) by rw [show (3 : Int).toNat = 3 from rfl, hp_up_j _ _ _ (by omega)]; exact e3, hp_ast (by omega) (by omega), show ((126 : Int) + (nput vs : Int)).toNat = 126 + nput vs by omega]
      rw [hp_ald (by decide) (by decide), show hv_up (hv_up m5 66 (96 + vs.length) (nput vs : Int)) 66 (126 + nput vs) x4 66 (3 : Int).toNat = (nput vs : Int) by rw [show (3 : Int).toNat = 3 from rfl, hp_up_j _ _ _ (by omega), hp_up_j _ _ _ (by omega)]; exact e3, hp_ast (by omega) (by omega), show ((156 : Int) + (nput vs : Int)).toNat = 156 + nput vs by omega]
      rw [hp_ald (by decide) (by decide), show hv_up (hv_up (hv_up m5 66 (96 + vs.length) (nput vs : Int)) 66 (126 + nput vs) x4) 66 (156 + nput vs) x5 66 (3 : Int).toNat = (nput vs : Int) by rw [show (3 : Int).toNat = 3 from rfl, hp_up_j _ _ _ (by omega), hp_up_j _ _ _ (by omega), hp_up_j _ _ _ (by omega)]; exact e3, hp_ast (by decide) (by decide)]
      rw [hp_ald (by decide) (by decide)]
      rw [show hv_up (hv_up (hv_up (hv_up m5 66 (96 + vs.length) (nput vs : Int)) 66 (126 + nput vs) x4) 66 (156 + nput vs) x5) 66 (3 : Int).toNat ((nput vs : Int) + 1) 66 (2 : Int).toNat = (vs.length : Int) by
        rw [show (3 : Int).toNat = 3 from rfl, show (2 : Int).toNat = 2 from rfl, hp_up_j _ _ _ (by omega), hp_up_j _ _ _ (by omega), hp_up_j _ _ _ (by omega), hp_up_j _ _ _ (by omega), old5 2 (fun b hb => by omega)]; exact h1]
      rw [hp_ast (by decide) (by decide), show (3 : Int).toNat = 3 from rfl, show (2 : Int).toNat = 2 from rfl, ← em']
      rfl
    · rw [em', hp_up_same, hvl]; omega
    · rw [em', hp_up_j _ _ _ (by omega), hp_up_same, nput_snoc, if_pos c1]; omega
    · rcases getNew j u hu with ⟨a, b⟩ | ⟨a, b⟩
      · exact mvOld m' hm' j u a b
      · subst a; subst b
        obtain ⟨n1, n2, n3, n4, n5⟩ := new5
        unfold Mv
        rw [hm' _ (by omega) (by omega) (by omega) (by omega) (by omega), hm' _ (by omega) (by omega) (by omega) (by omega) (by omega), hm' _ (by omega) (by omega) (by omega) (by omega) (by omega), hm' (186 + vs.length) (by omega) (by omega) (by omega) (by omega) (by omega), n1, n2, n3, n5]
        refine ⟨g1, g2, g3, ?_, rfl⟩
        rw [em', hp_up_j _ _ _ (by omega), hp_up_j _ _ _ (by omega), hp_up_j _ _ _ (by omega), hp_up_j _ _ _ (by omega), hp_up_same, if_pos c1]
        omega
    · rw [jl_snoc, if_pos c1] at hj
      by_cases c : j < (jl vs).length
      · rw [List.getElem?_append_left c] at hj
        rw [jl_len] at c
        rw [hm' _ (by omega) (by omega) (by omega) (by omega) (by omega), hm' _ (by omega) (by omega) (by omega) (by omega) (by omega), old5 _ (fun b hb => by omega), old5 _ (fun b hb => by omega)]
        exact h4 j k' c' hj
      · have ej : j = (jl vs).length := by
          rcases Nat.lt_or_ge j ((jl vs).length + 1) with c | c
          · omega
          · rw [List.getElem?_eq_none (by rw [List.length_append]; exact c)] at hj; cases hj
        rw [ej] at hj
        simp at hj
        obtain ⟨z1, z2⟩ := hj
        rw [jl_len] at ej
        rw [ej, em', hp_up_j _ _ _ (by omega), hp_up_j _ _ _ (by omega), hp_up_j _ _ _ (by omega), hp_up_same, hp_up_j _ _ _ (by omega), hp_up_j _ _ _ (by omega), hp_up_same]
        exact ⟨by rw [hx4, z1], by rw [hx5, z2]⟩
    · rw [em', hp_up_kk _ _ _ hk, hp_up_kk _ _ _ hk, hp_up_kk _ _ _ hk, hp_up_kk _ _ _ hk, hp_up_kk _ _ _ hk]; exact kk5 k hk
    · rw [hm' _ (by omega) (by omega) (by omega) (by omega) (by omega), old5 _ (fun b hb => by omega)]
  · obtain ⟨m', em'⟩ : ∃ m' : hMem, m' = hv_up m5 66 2 ((vs.length : Int) + 1) := ⟨_, rfl⟩
    have hm' : ∀ j, j ≠ 2 → m' 66 j = m5 66 j := fun j a => by rw [em', hp_up_j _ _ _ a]
    refine ⟨m', ?_, ⟨?_, ?_, fun j u hu => ?_, fun j k' c' hj => ?_⟩, fun k hk => ?_, fun j hj => ?_⟩
    · rw [hp_eq_f (by omega) (by decide) (by omega), hp_ald (by decide) (by decide), show m5 66 (2 : Int).toNat = (vs.length : Int) by rw [show (2 : Int).toNat = 2 from rfl, old5 2 (fun b hb => by omega)]; exact h1, hp_ast (by decide) (by decide), show (2 : Int).toNat = 2 from rfl, ← em']
      rfl
    · rw [em', hp_up_same, hvl]; omega
    · rw [hm' 3 (by omega), old5 3 (fun b hb => by omega), nput_snoc, if_neg c1]; exact h2
    · rcases getNew j u hu with ⟨a, b⟩ | ⟨a, b⟩
      · exact mvOld m' (fun j a _ _ _ _ => hm' j a) j u a b
      · subst a; subst b
        obtain ⟨n1, n2, n3, n4, n5⟩ := new5
        unfold Mv
        rw [hm' _ (by omega), hm' _ (by omega), hm' _ (by omega), hm' _ (by omega), hm' _ (by omega), n1, n2, n3, n4, n5, if_neg c1]
        exact ⟨g1, g2, g3, rfl, rfl⟩
    · rw [jl_snoc, if_neg c1, List.append_nil] at hj
      have : j < nput vs := by
        rw [← jl_len]
        rcases Nat.lt_or_ge j (jl vs).length with c | c
        · exact c
        · rw [List.getElem?_eq_none c] at hj; cases hj
      rw [hm' _ (by omega), hm' _ (by omega), old5 _ (fun b hb => by omega), old5 _ (fun b hb => by omega)]
      exact h4 j k' c' hj
    · rw [em', hp_up_kk _ _ _ hk]; exact kk5 k hk
    · rw [hm' _ (by omega), old5 _ (fun b hb => by omega)]
