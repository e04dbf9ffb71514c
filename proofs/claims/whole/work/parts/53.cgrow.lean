/-! the class: a version more, versions cut -/
theorem b_len (w : Nat) (vs : List hVr) : (b_all w vs).length = vs.length := by
  refine snoc_ind (P := fun vs => (b_all w vs).length = vs.length) rfl ?_ vs
  intro vs v ih
  have eb : b_all w (vs ++ [v]) = b_all w vs ++ [b_step w (b_all w vs) v] := b_snoc w vs v
  rw [eb, List.length_append, List.length_append, ih]; rfl
theorem r_len (vs : List hVr) : (r_all vs).length = vs.length := by
  refine snoc_ind (P := fun vs => (r_all vs).length = vs.length) rfl ?_ vs
  intro vs v ih
  rw [r_snoc, List.length_append, List.length_append, ih]; rfl
theorem b_px (w : Nat) (vs : List hVr) : ∀ n, n ≤ vs.length → ∀ j, j < n → (b_all w (vs.take n)).getD j [] = (b_all w vs).getD j [] := by
  refine snoc_ind (P := fun vs => ∀ n, n ≤ vs.length → ∀ j, j < n → (b_all w (vs.take n)).getD j [] = (b_all w vs).getD j []) ?_ ?_ vs
  · intro n hn j hj
    simp only [List.length_nil] at hn
    omega
  · intro vs v ih n hn j hj
    rw [List.length_append] at hn
    have hn : n ≤ vs.length + 1 := hn
    by_cases c : n = vs.length + 1
    · rw [List.take_of_length_le (by rw [List.length_append, c]; exact Nat.le_refl _)]
    · rw [List.take_append_of_le_length (by omega)]
      have eb : b_all w (vs ++ [v]) = b_all w vs ++ [b_step w (b_all w vs) v] := b_snoc w vs v
      rw [eb, getD_app _ _ _ (by rw [b_len]; omega)]
      exact ih n (by omega) j hj
theorem r_px (vs : List hVr) : ∀ n, n ≤ vs.length → ∀ j, j < n → (r_all (vs.take n)).getD j 0 = (r_all vs).getD j 0 := by
  refine snoc_ind (P := fun vs => ∀ n, n ≤ vs.length → ∀ j, j < n → (r_all (vs.take n)).getD j 0 = (r_all vs).getD j 0) ?_ ?_ vs
  · intro n hn j hj
    simp only [List.length_nil] at hn
    omega
  · intro vs v ih n hn j hj
    rw [List.length_append] at hn
    have hn : n ≤ vs.length + 1 := hn
    by_cases c : n = vs.length + 1
    · rw [List.take_of_length_le (by rw [List.length_append, c]; exact Nat.le_refl _)]
    · rw [List.take_append_of_le_length (by omega), r_snoc, getD_app _ _ _ (by rw [r_len]; omega)]
      exact ih n (by omega) j hj
theorem nput_app (a b : List hVr) : nput (a ++ b) = nput a + nput b := by simp [nput, List.filter_append]
theorem jl_app (a b : List hVr) : jl (a ++ b) = jl a ++ jl b := by simp [jl, List.filter_append]
def CR (vs : List hVr) (R0 R1 : Nat → Nat) (m : hMem) : Prop := JR vs m ∧ SR vs m ∧ (∀ j, j < vs.length → Bg 20 m j ((b_all 99 vs).getD j [])) ∧ HR 26 0 vs R0 m ∧ HR 42 1 vs R1 m
theorem JR.eq {vs : List hVr} {m m' : hMem} (h : JR vs m) (e1 : m' 11 = m 11) (e2 : m' 12 = m 12) (e3 : m' 13 = m 13) : JR vs m' := ⟨by rw [e1]; exact h.1, fun j k c hj => by rw [e2, e3]; exact h.2 j k c hj⟩
theorem SR.eq {vs : List hVr} {m m' : hMem} (h : SR vs m) (e : ∀ k, 14 ≤ k → k < 20 → m' k = m k) : SR vs m' := by
  obtain ⟨h1, h2, h3⟩ := h
  refine ⟨by rw [e 14 (by omega) (by omega)]; exact h1, fun j v hj => ?_, fun j hj => by rw [e 19 (by omega) (by omega)]; exact h3 j hj⟩
  unfold Sv
  rw [e 15 (by omega) (by omega), e 16 (by omega) (by omega), e 17 (by omega) (by omega), e 18 (by omega) (by omega)]
  exact h2 j v hj
theorem CR.eq {vs : List hVr} {R0 R1 : Nat → Nat} {m m' : hMem} (h : CR vs R0 R1 m) (e : ∀ k, 11 ≤ k → k < 58 → ¬ (k = 23 ∨ k = 24 ∨ k = 25) → m' k = m k) : CR vs R0 R1 m' := by
  obtain ⟨h1, h2, h3, h4, h5⟩ := h
  exact ⟨h1.eq (e 11 (by omega) (by omega) (by omega)) (e 12 (by omega) (by omega) (by omega)) (e 13 (by omega) (by omega) (by omega)), h2.eq (fun k k1 k2 => e k (by omega) (by omega) (by omega)), fun j hj => (h3 j hj).eq (e 21 (by omega) (by omega) (by omega)) (e 22 (by omega) (by omega) (by omega)), h4.eq (fun k k1 k2 => e k (by omega) (by omega) (by omega)), h5.eq (fun k k1 k2 => e k (by omega) (by omega) (by omega))⟩
theorem Gb.ga {v : hVr} {x1 x2 x3 tt : Int} (h : Gb v x1 x2 x3) (ht : v_how v = 1 → tt = (v_tu v : Int)) : Ga v x1 x2 x3 tt := by
  obtain ⟨g1, g2, g3⟩ := h
  refine ⟨g1, fun c => by rw [g2, if_neg c], fun c => by rw [g3, if_pos c], ht⟩
theorem c_grow49 {vs : List hVr} {v : hVr} {R0 R1 : Nat → Nat} {m : hMem} {x1 x2 x3 tt : Int} (hos : Os (vs ++ [v])) (hJ : JR (vs ++ [v]) m) (hS : SR vs m) (hB : ∀ j, j < vs.length → Bg 20 m j ((b_all 99 vs).getD j [])) (h0 : HR 26 0 vs R0 m) (h1 : HR 42 1 vs R1 m) (gb : Gb v x1 x2 x3) (ht : v_how v = 1 → tt = (v_tu v : Int)) (htt : f_X3_turnOf (v_job vs v) m = some (tt, m)) :
    ∃ m' R0' R1', J_X10_grow_49 x1 x2 x3 (vs.length : Int) (v_job vs v) m = some ((vs.length : Int), m') ∧ CR (vs ++ [v]) R0' R1' m' ∧ Fr 14 58 m m' := by
  have h30 := (os_snoc.mp hos).2.1
  obtain ⟨m1, a1, a2, a3⟩ := g_make (b := 20) (w := 99) (m := m) hos hB (fun _ => by omega) (gb.ga ht)
  obtain ⟨m2, R0', b1, b2, b3⟩ := c_grow (b := 26) (law := 0) (Or.inl rfl) hos (h0.eq (fun k k1 k2 => a3.1 k (by omega) (by omega))) (gb.ga ht)
  obtain ⟨m3, R1', d1, d2, d3⟩ := c_grow (b := 42) (law := 1) (Or.inr rfl) hos ((h1.eq (fun k k1 k2 => a3.1 k (by omega) (by omega))).eq (fun k k1 k2 => b3 k (by omega))) (gb.ga ht)
  have hS3 : SR vs m3 := hS.eq (fun k k1 k2 => (d3 k (by omega)).trans ((b3 k (by omega)).trans (a3.1 k (by omega) (by omega))))
  obtain ⟨m4, e1, e2, e3⟩ := s_add hos hS3 gb
  refine ⟨m4, R0', R1', ?_, ⟨hJ.eq ?_ ?_ ?_, e2, fun j hj => (a2 j hj).eq ?_ ?_, b2.eq (fun k k1 k2 => ?_), d2.eq (fun k k1 k2 => e3 k (by omega))⟩, fun k hk => ?_⟩
  · unfold J_X10_grow_49
    rw [htt, hp_b, a1, hp_b, b1, hp_b, d1, hp_b, e1, hp_b]
    rfl
  · rw [e3 11 (by omega), d3 11 (by omega), b3 11 (by omega), a3.1 11 (by omega) (by omega)]
  · rw [e3 12 (by omega), d3 12 (by omega), b3 12 (by omega), a3.1 12 (by omega) (by omega)]
  · rw [e3 13 (by omega), d3 13 (by omega), b3 13 (by omega), a3.1 13 (by omega) (by omega)]
  · rw [e3 _ (by omega), d3 _ (by omega), b3 _ (by omega)]
  · rw [e3 _ (by omega), d3 _ (by omega), b3 _ (by omega)]
  · rw [e3 _ (by omega), d3 _ (by omega)]
  · rw [e3 _ (by omega), d3 _ (by omega), b3 _ (by omega), a3.1 _ (by omega) (by omega)]
theorem getD_mem {l : List Nat} {i : Nat} (h : i < l.length) : l.getD i 0 ∈ l := by
  rw [List.getD_eq_getElem?_getD, List.getElem?_eq_getElem h]
  exact List.getElem_mem _
theorem c_growAll {vs : List hVr} {v : hVr} {R0 R1 : Nat → Nat} {m : hMem} {x1 x2 x3 x4 x5 : Int} (hos : Os (vs ++ [v])) (h : CR vs R0 R1 m) (gb : Gb v x1 x2 x3) (hk : v_how v = 1 → x4 = ((v_tu v / 30 : Nat) : Int) ∧ x5 = (v_ti v : Int)) :
    ∃ m' R0' R1', f_X10_grow x1 x2 x3 x4 x5 m = some ((vs.length : Int), m') ∧ CR (vs ++ [v]) R0' R1' m' ∧ Fr 11 58 m m' := by
  obtain ⟨ho, h30, hv⟩ := os_snoc.mp hos
  obtain ⟨hJ, hS, hB, h0, h1⟩ := h
  obtain ⟨⟨-, hb2⟩, -⟩ := bo_all 99 vs ho
  have nn := nput_le vs
  have start : f_X10_grow x1 x2 x3 x4 x5 m = hv_eq x1 1 (hv_b (f_X3_add x4 x5 m) (fun r5 m6 => J_X10_grow_49 x1 x2 x3 (vs.length : Int) r5 m6)) (hv_eq x1 3 (hv_b (f_X0_jobAt 20 x2 0 m) (fun r3 m4 => J_X10_grow_49 x1 x2 x3 (vs.length : Int) r3 m4)) (J_X10_grow_49 x1 x2 x3 (vs.length : Int) ((-1)) m)) := by
    unfold f_X10_grow f_X6_versions
    rw [hS.1]
    rfl
  have jrs : v_how v ≠ 1 → JR (vs ++ [v]) m := fun c => ⟨by rw [nput_snoc, if_neg c]; exact hJ.1, fun j k c' hj => by
    rw [jl_snoc, if_neg c, List.append_nil] at hj
    exact hJ.2 j k c' hj⟩
  have e1 := gb.1
  have h3 := (ov_lt hv).2.2
  rw [start]
  by_cases c1 : v_how v = 1
  · obtain ⟨ho1, ⟨k, hk9, et⟩, t1, t2, hsz⟩ : v_of v < vs.length ∧ (∃ k, k ≤ 999 ∧ v_tu v = k * 30 + nput vs) ∧ 1 ≤ v_ti v ∧ v_ti v ≤ 99 ∧ ((b_all 99 vs).getD (v_of v) []).length ≤ 23 := by
      rcases hv with h0 | ⟨h1, r⟩ | ⟨h2, -⟩ | ⟨h3, -⟩
      · omega
      · exact r
      · omega
      · omega
    obtain ⟨hx4, hx5⟩ := hk c1
    obtain ⟨m1, a1, a2, a3⟩ := j_add (v := v) hJ h30 c1 rfl rfl
    have ejob : v_job vs v = (nput vs : Int) := by
      unfold v_job
      rw [if_pos c1]
      omega
    have hjl : (jl (vs ++ [v]))[nput vs]? = some (v_tu v / 30, v_ti v) := by
      rw [jl_snoc, if_pos c1, ← jl_len]
      simp
    have htt := (j_turn a2 hos hjl).1
    rw [show v_tu v / 30 * 30 + nput vs = v_tu v by omega, ← ejob] at htt
    obtain ⟨m', R0', R1', g1, g2, g3⟩ := c_grow49 hos a2 (hS.eq (fun k k1 k2 => a3 k (by omega))) (fun j hj => (hB j hj).eq (a3 _ (by omega)) (a3 _ (by omega))) (h0.eq (fun k k1 k2 => a3 k (by omega))) (h1.eq (fun k k1 k2 => a3 k (by omega))) gb (fun _ => rfl) htt
    refine ⟨m', R0', R1', ?_, g2, (a3.mono (by omega) (by omega)).trans (g3.mono (by omega) (by omega))⟩
    rw [hp_eq_t (by omega) (by decide) (by omega), hx4, hx5, a1, hp_b, ← ejob]
    exact g1
  · by_cases c3 : v_how v = 3
    · obtain ⟨ho1, hsz⟩ : v_of v < vs.length ∧ 1 ≤ ((b_all 99 vs).getD (v_of v) []).length := by
        rcases hv with h0 | ⟨h1, -⟩ | ⟨h2, -⟩ | ⟨h3, r⟩
        · omega
        · omega
        · omega
        · exact r
      have q := g_jobAt (i := 0) (hB _ ho1) (by omega) (by decide)
      rw [if_pos ⟨by omega, by omega⟩] at q
      have ejob : v_job vs v = ((((b_all 99 vs).getD (v_of v) []).getD 0 0 % 30 : Nat) : Int) := by
        unfold v_job
        rw [if_neg c1, if_pos c3]
      have q : f_X0_jobAt 20 (v_of v : Int) 0 m = some (v_job vs v, m) := by rw [ejob]; exact q
      have mem0 : ((b_all 99 vs).getD (v_of v) []).getD 0 0 ∈ (b_all 99 vs).getD (v_of v) [] := getD_mem (by omega)
      obtain ⟨jt1, c, jt2, -⟩ := (hb2 _ ho1).2.2.1 _ mem0
      have htt := (j_turn hJ ho jt2).1
      rw [← ejob] at htt
      obtain ⟨m', R0', R1', g1, g2, g3⟩ := c_grow49 hos (jrs c1) hS hB h0 h1 gb (fun c => absurd c c1) htt
      refine ⟨m', R0', R1', ?_, g2, g3.mono (by omega) (by omega)⟩
      have e2 := gb.2.1
      rw [if_neg (by omega)] at e2
      rw [hp_eq_f (by omega) (by decide) (by omega), hp_eq_t (by omega) (by decide) (by omega)]
      rw [show f_X0_jobAt 20 x2 0 m = some (v_job vs v, m) by rw [e2]; exact q, hp_b]
      exact g1
    · have ejob : v_job vs v = -1 := by
        unfold v_job
        rw [if_neg c1, if_neg c3]
      have htt := j_turn1 (m := m)
      rw [← ejob] at htt
      obtain ⟨m', R0', R1', g1, g2, g3⟩ := c_grow49 hos (jrs c1) hS hB h0 h1 gb (fun c => absurd c c1) htt
      refine ⟨m', R0', R1', ?_, g2, g3.mono (by omega) (by omega)⟩
      rw [hp_eq_f (by omega) (by decide) (by omega), hp_eq_f (by omega) (by decide) (by omega), ← ejob]
      exact g1
theorem s_get {vs : List hVr} {m : hMem} (h : SR vs m) (h30 : vs.length ≤ 30) {j : Nat} {v : hVr} (hj : vs[j]? = some v) : f_X6_howOf (j : Int) m = some ((v_how v : Int), m) ∧ f_X6_firstOf (j : Int) m = some ((if v_how v = 0 then -1 else (v_of v : Int)), m) ∧ f_X6_secondOf (j : Int) m = some ((if v_how v = 2 then (v_ot v : Int) else -1), m) ∧ f_X6_jobOf (j : Int) m = some (v_job (vs.take j) v, m) := by
  have hl : j < vs.length := by
    rcases Nat.lt_or_ge j vs.length with c | c
    · exact c
    · rw [List.getElem?_eq_none c] at hj; cases hj
  obtain ⟨e1, e2, e3, e4⟩ := h.2.1 j v hj
  refine ⟨?_, ?_, ?_, ?_⟩
  · unfold f_X6_howOf; rw [fe_at' (by omega) (by omega) (by omega), hp_b, Int.toNat_natCast, e1]; rfl
  · unfold f_X6_firstOf; rw [fe_at' (by omega) (by omega) (by omega), hp_b, Int.toNat_natCast, e2]; rfl
  · unfold f_X6_secondOf; rw [fe_at' (by omega) (by omega) (by omega), hp_b, Int.toNat_natCast, e3]; rfl
  · unfold f_X6_jobOf; rw [fe_at' (by omega) (by omega) (by omega), hp_b, Int.toNat_natCast, e4]; rfl
theorem c_putsFromL {vs : List hVr} {m : hMem} (h : SR vs m) (ho : Os vs) : ∀ (b a : List hVr) (n s : Nat), a ++ b = vs → b.length < n → L_X6_putsFrom_4 n (s : Int) (a.length : Int) m = some (((s + nput b : Nat) : Int), m)
  | _, _, 0, _, _, hn => by omega
  | [], a, n + 1, s, e, hn => by
    have h30 := ho.1
    rw [List.append_nil] at e
    rw [← e] at h30
    show B_X6_putsFrom_4 (L_X6_putsFrom_4 n) (s : Int) (a.length : Int) m = _
    unfold B_X6_putsFrom_4
    rw [h.1, ← e, hp_lt_f (by omega) (by omega) (by omega)]
    rfl
  | v :: b, a, n + 1, s, e, hn => by
    have h30 := ho.1
    simp only [List.length_cons] at hn
    have el := congrArg List.length e
    rw [List.length_append, List.length_cons] at el
    have hget : vs[a.length]? = some v := by rw [← e]; simp
    have hv := (s_get h h30 hget).1
    have h3 := (ov_lt (ho.2 _ _ hget)).2.2
    have g := fun s' => c_putsFromL h ho b (a ++ [v]) n s' (by rw [List.append_assoc]; exact e) (by omega)
    show B_X6_putsFrom_4 (L_X6_putsFrom_4 n) (s : Int) (a.length : Int) m = _
    unfold B_X6_putsFrom_4
    rw [h.1, hp_lt_t (by omega) (by omega) (by omega), hv, hp_b]
    have np : nput (v :: b) = (if v_how v = 1 then 1 else 0) + nput b := by
      have := nput_app [v] b
      rw [List.singleton_append] at this
      rw [this]
      have z := nput_snoc [] v
      rw [List.nil_append] at z
      rw [z]
      show 0 + _ + _ = _
      omega
    by_cases c : v_how v = 1
    · rw [hp_eq_t (by omega) (by decide) (by omega), hp_set, hp_set, np, if_pos c]
      have g' := g (s + 1)
      rw [List.length_append, List.length_singleton] at g'
      rw [show s + (1 + nput b) = s + 1 + nput b by omega]
      exact g'
    · rw [hp_eq_f (by omega) (by decide) (by omega), hp_set, np, if_neg c, Nat.zero_add]
      have g' := g s
      rw [List.length_append, List.length_singleton] at g'
      exact g'
theorem c_cutTo {vs : List hVr} {R0 R1 : Nat → Nat} {m : hMem} {n : Nat} (ho : Os vs) (h : CR vs R0 R1 m) (hn : n ≤ vs.length) : ∃ m', f_X10_cutTo (n : Int) m = some (0, m') ∧ CR (vs.take n) R0 R1 m' ∧ Fr 11 58 m m' := by
  obtain ⟨hJ, hS, hB, h0, h1⟩ := h
  have h30 := ho.1
  have ea : vs.take n ++ vs.drop n = vs := List.take_append_drop n vs
  have hl : (vs.take n).length = n := by rw [List.length_take]; omega
  have pf := c_putsFromL hS ho (vs.drop n) (vs.take n) hv_FU 0 ea (fu_lt (by rw [List.length_drop]; omega))
  rw [hl, Nat.zero_add] at pf
  have pf : f_X6_putsFrom (n : Int) m = some ((nput (vs.drop n) : Int), m) := pf
  have np := nput_app (vs.take n) (vs.drop n)
  rw [ea] at np
  have jp := jl_app (vs.take n) (vs.drop n)
  rw [ea] at jp
  obtain ⟨m1, em1⟩ : ∃ m1 : hMem, m1 = hv_up m 11 2 (nput (vs.take n) : Int) := ⟨_, rfl⟩
  have F1 : Fr 11 12 m m1 := by rw [em1]; exact (Fr.refl _ _ _).up (by omega)
  obtain ⟨m2, b1, b2, b3⟩ := c_hcut (b := 26) (Or.inl rfl) ho (h0.eq (fun k k1 k2 => F1 k (by omega))) hn
  obtain ⟨m3, d1, d2, d3⟩ := c_hcut (b := 42) (Or.inr rfl) ho ((h1.eq (fun k k1 k2 => F1 k (by omega))).eq (fun k k1 k2 => b3 k (by omega))) hn
  obtain ⟨m4, em4⟩ : ∃ m4 : hMem, m4 = hv_up m3 14 5 (n : Int) := ⟨_, rfl⟩
  have F4 : Fr 14 15 m3 m4 := by rw [em4]; exact (Fr.refl _ _ _).up (by omega)
  have all : ∀ k, 11 < k → k < 26 → k ≠ 14 → m4 k = m k := fun k k1 k2 k3 => by rw [F4 k (by omega), d3 k (by omega), b3 k (by omega), F1 k (by omega)]
  refine ⟨m4, ?_, ⟨⟨?_, fun j k c hj => ?_⟩, ⟨?_, fun j v hj => ?_, fun j hj => ?_⟩, fun j hj => ?_, b2.eq (fun k k1 k2 => ?_), d2.eq (fun k k1 k2 => F4 k (by omega))⟩, fun k hk => ?_⟩
  · unfold f_X10_cutTo f_X3_known f_X3_cut
    rw [show hv_ret (m 11 2) m = some (m 11 2, m) from rfl, hp_b, pf, hp_b, hJ.1, hp_put, show (nput vs : Int) - (nput (vs.drop n) : Int) = (nput (vs.take n) : Int) by omega, ← em1]
    rw [show hv_ret 0 m1 = some (0, m1) from rfl, hp_b, b1, hp_b, d1, hp_b]
    unfold f_X6_cut
    rw [hp_put, ← em4]
    rfl
  · rw [F4 11 (by omega), d3 11 (by omega), b3 11 (by omega), em1, hp_up_same]
  · rw [all 12 (by omega) (by omega) (by omega), all 13 (by omega) (by omega) (by omega)]
    refine hJ.2 j k c ?_
    rw [jp]
    have : j < (jl (vs.take n)).length := by
      rcases Nat.lt_or_ge j (jl (vs.take n)).length with c | c
      · exact c
      · rw [List.getElem?_eq_none c] at hj; cases hj
    rw [List.getElem?_append_left this]
    exact hj
  · rw [em4, hp_up_same, hl]
  · have hjn : j < n := by
      rcases Nat.lt_or_ge j n with c | c
      · exact c
      · rw [List.getElem?_eq_none (by omega)] at hj; cases hj
    rw [List.getElem?_take_of_lt hjn] at hj
    unfold Sv
    rw [List.take_take, Nat.min_eq_left (by omega), all 15 (by omega) (by omega) (by omega), all 16 (by omega) (by omega) (by omega), all 17 (by omega) (by omega) (by omega), all 18 (by omega) (by omega) (by omega)]
    exact hS.2.1 j v hj
  · rw [hl] at hj
    rw [all 19 (by omega) (by omega) (by omega), r_px vs n hn j hj]
    exact hS.2.2 j (by omega)
  · rw [hl] at hj
    rw [b_px 99 vs n hn j hj]
    exact (hB j (by omega)).eq (all 21 (by omega) (by omega) (by omega)) (all 22 (by omega) (by omega) (by omega))
  · rw [F4 k (by omega), d3 k (by omega)]
  · rw [F4 k (by omega), d3 k (by omega), b3 k (by omega), F1 k (by omega)]
