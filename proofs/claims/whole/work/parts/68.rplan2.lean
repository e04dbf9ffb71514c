/-! the reference: plan -/
theorem RM.sub {vs : List hVr} {m m' : hMem} (h30 : vs.length ≤ 30) (h : RM vs m) (e : ∀ j, 2 ≤ j → j < 216 → j ≠ 4 → j ≠ 5 → m' 66 j = m 66 j) : RM vs m' := by
  obtain ⟨h1, h2, h3, h4⟩ := h
  have nn := nput_le vs
  refine ⟨by rw [e 2 (by omega) (by omega) (by omega) (by omega)]; exact h1, by rw [e 3 (by omega) (by omega) (by omega) (by omega)]; exact h2, fun j v hj => ?_, fun j k c hj => ?_⟩
  · have hl : j < vs.length := by
      rcases Nat.lt_or_ge j vs.length with c | c
      · exact c
      · rw [List.getElem?_eq_none c] at hj; cases hj
    unfold Mv
    rw [e (6 + j) (by omega) (by omega) (by omega) (by omega), e (36 + j) (by omega) (by omega) (by omega) (by omega), e (66 + j) (by omega) (by omega) (by omega) (by omega), e (96 + j) (by omega) (by omega) (by omega) (by omega), e (186 + j) (by omega) (by omega) (by omega) (by omega)]
    exact h3 j v hj
  · have hl : j < nput vs := by
      rw [← jl_len]
      rcases Nat.lt_or_ge j (jl vs).length with c | c
      · exact c
      · rw [List.getElem?_eq_none c] at hj; cases hj
    rw [e (126 + j) (by omega) (by omega) (by omega) (by omega), e (156 + j) (by omega) (by omega) (by omega) (by omega)]
    exact h4 j k c hj
def Rz (m1 : hMem) (e : Except (Int × Int) (Nat × Nat × Nat × List hVr)) : Prop :=
  match e with
  | .ok (li, la, ha, vs) => m1 65 10 = 0 ∧ RM vs m1 ∧ m1 66 5 = (li : Int) ∧ m1 66 0 = (la : Int) ∧ m1 66 1 = (ha : Int)
  | .error f => m1 65 10 = 1 ∧ m1 65 4 = f.1 ∧ m1 65 5 = f.2
theorem r_48B {bs q : List Nat} {f : Int × Int} {m : hMem} (h : Rb bs q f m) {n : Nat} (hn : 0 < n) : L_X11_plan_48 n m = J_X11_plan_119 m := by
  obtain ⟨n, rfl⟩ : ∃ k, n = k + 1 := ⟨n - 1, by omega⟩
  show B_X11_plan_48 (L_X11_plan_48 n) m = _
  unfold B_X11_plan_48
  rw [h.2.2.2.1, hp_eq_f (by decide) (by decide) (by decide)]
theorem r_82B {bs q : List Nat} {f : Int × Int} {m : hMem} (h : Rb bs q f m) {n : Nat} (hn : 0 < n) : ∃ m1, J_X11_plan_82 (L_X11_plan_48 n) m = J_X11_plan_119 m1 ∧ Rb bs q f m1 ∧ FM m m1 := by
  have h1 := h.up 5 (m 66 5 + 1)
  refine ⟨hv_up m 66 5 (m 66 5 + 1), ?_, h1, (FM.refl m).up⟩
  unfold J_X11_plan_82 J_X11_plan_98 J_X11_plan_103
  rw [h.2.2.2.1, hp_eq_f (by decide) (by decide) (by decide), r_passB h (by decide), hp_b, hp_ald (by decide) (by decide), hp_ast (by decide) (by decide), show (5 : Int).toNat = 5 from rfl]
  exact r_48B h1 hn
theorem r_82G {bs q : List Nat} {m : hMem} (R : hMem → hRs) (h : Rg bs q m) :
    (kd q = 3 → ∃ m2, J_X11_plan_82 R m = R m2 ∧ Rg bs (nx q) m2 ∧ m2 66 5 = m 66 5 + 1 ∧ (∀ j, j ≠ 5 → m2 66 j = m 66 j) ∧ FM m m2) ∧
    (kd q ≠ 3 → ∃ m2, J_X11_plan_82 R m = R m2 ∧ Rb bs q (1, pl bs q) m2 ∧ FM m m2) := by
  have kl := kd_le q
  have e8 := h.2.2.1.2.2.1
  refine ⟨fun c => ?_, fun c => ?_⟩
  · obtain ⟨m1, a1, a2, a3⟩ := r_pass1 h
    have e66 : m1 66 = m 66 := a3.1 66 (by omega)
    refine ⟨hv_up m1 66 5 (m1 66 5 + 1), ?_, a2.up 5 _, by rw [hp_up_same, e66], fun j hj => by rw [hp_up_j _ _ _ hj, e66], a3.fm.up⟩
    unfold J_X11_plan_82 J_X11_plan_98 J_X11_plan_103
    rw [h.2.2.2, hp_eq_t (by decide) (by decide) rfl, e8, hp_eq_t (by omega) (by decide) (by omega), a1, hp_b, hp_ald (by decide) (by decide), hp_ast (by decide) (by decide), show (5 : Int).toNat = 5 from rfl]
  · obtain ⟨m1, a1, a2, a3⟩ := r_pass0 h
    refine ⟨hv_up m1 66 5 (m1 66 5 + 1), ?_, a2.up 5 _, a3.fm.up⟩
    unfold J_X11_plan_82 J_X11_plan_98 J_X11_plan_103
    rw [h.2.2.2, hp_eq_t (by decide) (by decide) rfl, e8, hp_eq_f (by omega) (by decide) (by omega), a1, hp_b, hp_ald (by decide) (by decide), hp_ast (by decide) (by decide), show (5 : Int).toNat = 5 from rfl]
theorem r_planL {bs : List Nat} : ∀ (k n li la ha : Nat) (vs : List hVr) (q : List Nat) (m : hMem), q.length < k → k < n → li + q.length ≤ 600 → Os vs → vs.length ≤ 20 → Rg bs q m → RM vs m → m 66 5 = (li : Int) → m 66 0 = (la : Int) → m 66 1 = (ha : Int) →
    ∃ m1, L_X11_plan_48 n m = J_X11_plan_119 m1 ∧ FM m m1 ∧ Rz m1 (e_run bs k li la ha vs q)
  | 0, _, _, _, _, _, _, _, hk, _, _, _, _, _, _, _, _, _ => by omega
  | k + 1, 0, _, _, _, _, _, _, _, hn, _, _, _, _, _, _, _, _ => by omega
  | k + 1, n + 1, li, la, ha, vs, q, m, hk, hn, hli, ho, h20, h, hM, h5, h0, h1 => by
    have kl := kd_le q
    show ∃ m1, B_X11_plan_48 (L_X11_plan_48 n) m = _ ∧ _
    unfold B_X11_plan_48
    rw [h.2.2.2, hp_eq_t (by decide) (by decide) rfl, h.2.2.1.2.2.1]
    by_cases c0 : kd q = 0
    · rw [hp_eq_t (by omega) (by decide) (by omega)]
      refine ⟨m, rfl, FM.refl m, ?_⟩
      unfold e_run
      rw [if_pos c0]
      exact ⟨h.2.2.2, hM, h5, h0, h1⟩
    · have hq1 : 1 ≤ q.length := ne_pos (fun e => c0 (by rw [e]; rfl))
      rw [hp_eq_f (by omega) (by decide) (by omega), hp_ald (by decide) (by decide), show m 66 (5 : Int).toNat = (li : Int) from h5]
      by_cases cl : li = 0
      · have er : e_run bs (k + 1) li la ha vs q = match e_plan bs q with | .error f => .error f | .ok r => e_run bs k 1 r.1.1 r.1.2 vs r.2 := by
          rw [e_run, if_neg c0, if_pos cl]
          all_goals (cases e_plan bs q <;> rfl)
        rw [er, hp_eq_t (by omega) (by decide) (by omega)]
        obtain ⟨m2, a1, a2, a3, a4⟩ := r_readsPlan h
        rw [a1, hp_b]
        rcases a4 with ⟨f, q', he, hB⟩ | ⟨l, hh, q', he, hG, e0, e1, hlt⟩
        · obtain ⟨m3, b1, b2, b3⟩ := r_82B hB (n := n) (by omega)
          refine ⟨m3, b1, a2.trans b3, ?_⟩
          rw [he]
          exact ⟨b2.2.2.2.1, b2.2.2.2.2.1, b2.2.2.2.2.2⟩
        · obtain ⟨g, gb⟩ := r_82G (L_X11_plan_48 n) hG
          by_cases c3 : kd q' = 3
          · obtain ⟨m3, b1, b2, b3, b4, b5⟩ := g c3
            have nl := nx_le q'
            have hM2 : RM vs m3 := hM.sub (by omega) (fun j j2 _ j4 j5 => by rw [b4 j j5, a3 j j2])
            obtain ⟨m4, d1, d2, d3⟩ := r_planL k n 1 l hh vs (nx q') m3 (by omega) (by omega) (by omega) ho h20 b2 hM2 (by rw [b3, a3 5 (by omega), h5]; omega) (by rw [b4 0 (by omega)]; exact e0) (by rw [b4 1 (by omega)]; exact e1)
            refine ⟨m4, by rw [b1]; exact d1, (a2.trans b5).trans d2, ?_⟩
            rw [he, e_end, if_pos c3]
            exact d3
          · obtain ⟨m3, b1, b2, b3⟩ := gb c3
            refine ⟨m3, by rw [b1]; exact r_48B b2 (by omega), a2.trans b3, ?_⟩
            rw [he, e_end, if_neg c3]
            exact ⟨b2.2.2.2.1, b2.2.2.2.2.1, b2.2.2.2.2.2⟩
      · have er : e_run bs (k + 1) li la ha vs q = match e_ver bs vs q with | .error f => .error f | .ok r => e_run bs k (li + 1) la ha (vs ++ [r.1]) r.2 := by
          rw [e_run, if_neg c0, if_neg cl]
          all_goals (cases e_ver bs vs q <;> rfl)
        rw [er, hp_eq_f (by omega) (by decide) (by omega)]
        obtain ⟨m2, a1, a2, a3, a4⟩ := r_readsVer h hM ho h20 c0
        rw [a1, hp_b]
        rcases a4 with ⟨f, q', he, hB⟩ | ⟨v, q', he, hG, hM2, hlt, hos⟩
        · obtain ⟨m3, b1, b2, b3⟩ := r_82B hB (n := n) (by omega)
          refine ⟨m3, b1, a2.trans b3, ?_⟩
          rw [he]
          exact ⟨b2.2.2.2.1, b2.2.2.2.2.1, b2.2.2.2.2.2⟩
        · obtain ⟨g, gb⟩ := r_82G (L_X11_plan_48 n) hG
          by_cases c3 : kd q' = 3
          · obtain ⟨m3, b1, b2, b3, b4, b5⟩ := g c3
            have nl := nx_le q'
            have eok : e_ver bs vs q = .ok (v, nx q') := by rw [he, e_end, if_pos c3]
            have v20 := (ver_spec eok).2.2
            have hl1 : (vs ++ [v]).length = vs.length + 1 := by rw [List.length_append]; rfl
            have hM3 : RM (vs ++ [v]) m3 := hM2.sub (by omega) (fun j j2 _ j4 j5 => b4 j j5)
            obtain ⟨m4, d1, d2, d3⟩ := r_planL k n (li + 1) la ha (vs ++ [v]) (nx q') m3 (by omega) (by omega) (by omega) hos (by omega) b2 hM3 (by rw [b3, a3 5 (by omega), h5]; omega) (by rw [b4 0 (by omega), a3 0 (by omega)]; exact h0) (by rw [b4 1 (by omega), a3 1 (by omega)]; exact h1)
            refine ⟨m4, by rw [b1]; exact d1, (a2.trans b5).trans d2, ?_⟩
            rw [eok]
            exact d3
          · obtain ⟨m3, b1, b2, b3⟩ := gb c3
            refine ⟨m3, by rw [b1]; exact r_48B b2 (by omega), a2.trans b3, ?_⟩
            rw [he, e_end, if_neg c3]
            exact ⟨b2.2.2.2.1, b2.2.2.2.2.1, b2.2.2.2.2.2⟩
theorem r_133 : ∀ (d n i : Nat) (m : hMem), i + d = 216 → d < n → ∃ m', L_X11_plan_133 n (i : Int) m = some (-4, m') ∧ (∀ k, k ≠ 66 → m' k = m k) ∧ (∀ j, i ≤ j → j < 216 → m' 66 j = m 67 j) ∧ ∀ j, j < i → m' 66 j = m 66 j
  | _, 0, _, _, _, hn => by omega
  | 0, n + 1, i, m, hi, hn => by
    refine ⟨m, ?_, fun _ _ => rfl, fun j a b => by omega, fun _ _ => rfl⟩
    show B_X11_plan_133 (L_X11_plan_133 n) (i : Int) m = _
    unfold B_X11_plan_133
    rw [hp_lt_f (by omega) (by decide) (by omega)]
    rfl
  | d + 1, n + 1, i, m, hi, hn => by
    obtain ⟨m', g1, g2, g3, g4⟩ := r_133 d n (i + 1) (hv_up m 66 i (m 67 i)) (by omega) (by omega)
    refine ⟨m', ?_, fun k hk => by rw [g2 k hk, hp_up_kk _ _ _ hk], fun j a b => ?_, fun j a => by rw [g4 j (by omega), hp_up_j _ _ _ (by omega)]⟩
    · show B_X11_plan_133 (L_X11_plan_133 n) (i : Int) m = _
      unfold B_X11_plan_133
      rw [hp_lt_t (by omega) (by decide) (by omega), hp_ald (by omega) (by omega), hp_ast (by omega) (by omega), hp_set, Int.toNat_natCast]
      exact g1
    · by_cases c : j = i
      · rw [c, g4 i (by omega), hp_up_same]
      · rw [g3 j (by omega) b, hp_up_k _ _ _ _ (by omega)]
theorem r_plan2 : ∀ (d n i : Nat) (m : hMem), i + d = 216 → d < n → ∃ m1, L_X11_plan_2 n (i : Int) m = hv_put m1 65 6 0 (fun m1 => hv_put m1 65 10 0 (fun m2 => hv_b (f_X11_next m2) (fun r3 m4 => L_X11_plan_48 hv_FU m4))) ∧ (∀ k, k ≠ 66 → k ≠ 67 → m1 k = m k) ∧ (∀ j, i ≤ j → j < 216 → m1 67 j = m 66 j ∧ m1 66 j = 0) ∧ ∀ j, j < i → m1 67 j = m 67 j ∧ m1 66 j = m 66 j
  | _, 0, _, _, _, hn => by omega
  | 0, n + 1, i, m, hi, hn => by
    refine ⟨m, ?_, fun _ _ _ => rfl, fun j a b => by omega, fun _ _ => ⟨rfl, rfl⟩⟩
    show B_X11_plan_2 (L_X11_plan_2 n) (i : Int) m = _
    unfold B_X11_plan_2
    rw [hp_lt_f (by omega) (by decide) (by omega)]
  | d + 1, n + 1, i, m, hi, hn => by
    obtain ⟨m1, g1, g2, g3, g4⟩ := r_plan2 d n (i + 1) (hv_up (hv_up m 67 i (m 66 i)) 66 i 0) (by omega) (by omega)
    refine ⟨m1, ?_, fun k a b => by rw [g2 k a b, hp_up_kk _ _ _ a, hp_up_kk _ _ _ b], fun j a b => ?_, fun j a => ?_⟩
    · show B_X11_plan_2 (L_X11_plan_2 n) (i : Int) m = _
      unfold B_X11_plan_2
      rw [hp_lt_t (by omega) (by decide) (by omega), hp_ald (by omega) (by omega), hp_ast (by omega) (by omega), hp_ast (by omega) (by omega), hp_set, Int.toNat_natCast]
      exact g1
    · by_cases c : j = i
      · rw [c, (g4 i (by omega)).1, (g4 i (by omega)).2, hp_up_k _ _ _ _ (by omega), hp_up_same, hp_up_same]
        exact ⟨rfl, rfl⟩
      · rw [(g3 j (by omega) b).1, (g3 j (by omega) b).2, hp_up_j _ _ _ c, hp_up_k _ _ _ _ (by omega)]
        exact ⟨rfl, rfl⟩
    · rw [(g4 j (by omega)).1, (g4 j (by omega)).2, hp_up_k _ _ _ _ (by omega), hp_up_j _ _ _ (by omega), hp_up_j _ _ _ (by omega), hp_up_k _ _ _ _ (by omega)]
      exact ⟨rfl, rfl⟩
theorem r_plan {S : hS} {m : hMem} (hA : AV S) (h : RI S m) :
    (∀ li la ha vs, e_all (s_bs S) = .ok (li, la, ha, vs) → ∃ m', f_X11_plan m = some ((li : Int), m') ∧ RI ((la, ha, li, vs.length), vs, [], (0, -1)) m' ∧ FR m m') ∧
    (∀ f, e_all (s_bs S) = .error f → ∃ m', f_X11_plan m = some (-4, m') ∧ RI ((s_la S, s_ha S, s_li S, s_to S), s_vs S, [], f) m' ∧ FR m m') := by
  obtain ⟨h1, h2, h3, h4, h5, h6, h7, h8⟩ := h
  obtain ⟨v1, v2, v3, v4, v5, v6, v7, v8, v9, v10, v11, v12⟩ := hA
  obtain ⟨m1, a1, a2, a3, -⟩ := r_plan2 216 hv_FU 0 m (by omega) (fu_lt (by omega))
  obtain ⟨m2, em2⟩ : ∃ m2 : hMem, m2 = hv_up (hv_up m1 65 6 0) 65 10 0 := ⟨_, rfl⟩
  have F2 : ∀ k, k ≠ 65 → m2 k = m1 k := fun k hk => by rw [em2, hp_up_kk _ _ _ hk, hp_up_kk _ _ _ hk]
  have G2 : ∀ j, j ≠ 6 → j ≠ 10 → m2 65 j = m1 65 j := fun j a b => by rw [em2, hp_up_j _ _ _ b, hp_up_j _ _ _ a]
  have e65 : m1 65 = m 65 := a2 65 (by omega) (by omega)
  have e68 : m1 68 = m 68 := a2 68 (by omega) (by omega)
  have tp2 : TpR (s_bs S) m2 := ⟨by rw [G2 3 (by omega) (by omega), e65]; exact h6.1, fun i hi => by rw [F2 68 (by omega), e68]; exact h6.2 i hi⟩
  obtain ⟨m3, b1, b2, b3⟩ := r_nextL v9 v10 (s_bs S) [] hv_FU m2 (fu_lt (by omega)) tp2 rfl (by rw [em2, hp_up_j _ _ _ (by omega), hp_up_same]; rfl)
  have b1 : f_X11_next m2 = some (0, m3) := b1
  have e66 : m3 66 = m1 66 := by rw [b3.1 66 (by omega), F2 66 (by omega)]
  have e67 : m3 67 = m1 67 := by rw [b3.1 67 (by omega), F2 67 (by omega)]
  have hG : Rg (s_bs S) ((s_bs S).dropWhile bBl) m3 := ⟨v9, v10, b2, by rw [b3.2 10 (by unfold Jt4; omega), em2, hp_up_same]⟩
  have hM3 : RM [] m3 := ⟨by rw [e66]; exact (a3 2 (by omega) (by omega)).2, by rw [e66]; exact (a3 3 (by omega) (by omega)).2, fun j v hj => by simp at hj, fun j k c hj => by simp [jl] at hj⟩
  have dl : ((s_bs S).dropWhile bBl).length ≤ (s_bs S).length := len_drop_le
  obtain ⟨m4, d1, d2, d3⟩ := r_planL 601 hv_FU 0 0 0 [] ((s_bs S).dropWhile bBl) m3 (by omega) (fu_lt (by omega)) (by omega) ⟨by simp, fun n v hv => by simp at hv⟩ (by simp) hG hM3 (by rw [e66]; exact (a3 5 (by omega) (by omega)).2) (by rw [e66]; exact (a3 0 (by omega) (by omega)).2) (by rw [e66]; exact (a3 1 (by omega) (by omega)).2)
  have run : f_X11_plan m = J_X11_plan_119 m4 := by
    unfold f_X11_plan
    refine Eq.trans a1 ?_
    rw [hp_put, hp_put, ← em2, b1, hp_b]
    exact d1
  have o4 : ∀ k, k < 65 ∨ 67 ≤ k → k ≠ 67 → m4 k = m k := fun k hk k67 => by
    rw [d2.1 k (by omega) (by omega), b3.1 k (by omega), F2 k (by omega), a2 k (by omega) (by omega)]
  have d3 : Rz m4 (e_all (s_bs S)) := d3
  refine ⟨fun li la ha vs e => ?_, fun f e => ?_⟩
  · rw [e] at d3
    obtain ⟨r1, r2, r3, r4, r5⟩ := d3
    obtain ⟨w1, w2, w3, w4, w5, w6, w7⟩ := all_spec v9 e
    obtain ⟨m5, em5⟩ : ∃ m5 : hMem, m5 = hv_up (hv_up (hv_up (hv_up m4 65 3 0) 65 4 0) 65 5 (-1)) 66 4 (vs.length : Int) := ⟨_, rfl⟩
    have o5 : ∀ j, j ≠ 4 → m5 66 j = m4 66 j := fun j hj => by rw [em5, hp_up_j _ _ _ hj, hp_up_k _ _ _ _ (by omega), hp_up_k _ _ _ _ (by omega), hp_up_k _ _ _ _ (by omega)]
    refine ⟨m5, ?_, ⟨by rw [o5 0 (by omega)]; exact r4, by rw [o5 1 (by omega)]; exact r5, by rw [em5, hp_up_same]; rfl, by rw [o5 5 (by omega)]; exact r3, r2.sub w1.1 (fun j _ _ j4 _ => o5 j j4), ⟨?_, fun i hi => by simp [s_bs] at hi⟩, ?_, ?_⟩, fun k hk => ?_⟩
    · rw [run]
      unfold J_X11_plan_119
      rw [hp_put, hp_up_j _ _ _ (by omega), r1, hp_eq_t (by decide) (by decide) rfl, hp_put, hp_put, hp_ald (by decide) (by decide)]
      rw [show hv_up (hv_up (hv_up m4 65 3 0) 65 4 0) 65 5 (-1) 66 (2 : Int).toNat = (vs.length : Int) by rw [hp_up_k _ _ _ _ (by omega), hp_up_k _ _ _ _ (by omega), hp_up_k _ _ _ _ (by omega)]; exact r2.1]
      rw [hp_ast (by decide) (by decide), show (4 : Int).toNat = 4 from rfl, ← em5, hp_ald (by decide) (by decide), show m5 66 (5 : Int).toNat = (li : Int) by rw [show (5 : Int).toNat = 5 from rfl, o5 5 (by omega)]; exact r3]
      rfl
    · rw [em5, hp_up_k _ _ _ _ (by omega), hp_up_j _ _ _ (by omega), hp_up_j _ _ _ (by omega), hp_up_same]; rfl
    · rw [em5, hp_up_k _ _ _ _ (by omega), hp_up_j _ _ _ (by omega), hp_up_same]; rfl
    · rw [em5, hp_up_k _ _ _ _ (by omega), hp_up_same]; rfl
    · rw [em5, hp_up_kk _ _ _ (by omega), hp_up_kk _ _ _ (by omega), hp_up_kk _ _ _ (by omega), hp_up_kk _ _ _ (by omega)]; exact o4 k (by omega) (by omega)
  · rw [e] at d3
    obtain ⟨r1, r2, r3⟩ := d3
    obtain ⟨m5, g1, g2, g3, -⟩ := r_133 216 hv_FU 0 (hv_up m4 65 3 0) (by omega) (fu_lt (by omega))
    have old : ∀ j, j < 216 → m5 66 j = m 66 j := fun j hj => by
      rw [g3 j (by omega) hj, hp_up_k _ _ _ _ (by omega), d2.1 67 (by omega) (by omega), e67]
      exact (a3 j (by omega) hj).1
    refine ⟨m5, ?_, ⟨by rw [old 0 (by omega)]; exact h1, by rw [old 1 (by omega)]; exact h2, by rw [old 4 (by omega)]; exact h3, by rw [old 5 (by omega)]; exact h4, h5.sub v1.1 (fun j _ j2 _ _ => old j j2), ⟨?_, fun i hi => by simp [s_bs] at hi⟩, ?_, ?_⟩, fun k hk => ?_⟩
    · rw [run]
      unfold J_X11_plan_119
      rw [hp_put, hp_up_j _ _ _ (by omega), r1, hp_eq_f (by decide) (by decide) (by decide)]
      exact g1
    · rw [g2 65 (by omega), hp_up_same]; rfl
    · rw [g2 65 (by omega), hp_up_j _ _ _ (by omega)]; exact r2
    · rw [g2 65 (by omega), hp_up_j _ _ _ (by omega)]; exact r3
    · rw [g2 k (by omega), hp_up_kk _ _ _ (by omega)]; exact o4 k (by omega) (by omega)
