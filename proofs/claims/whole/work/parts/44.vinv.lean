/-! versions: heaps and bags go together -/
theorem snoc_ind {P : List hVr → Prop} (h0 : P []) (hs : ∀ vs v, P vs → P (vs ++ [v])) (vs : List hVr) : P vs := by
  have h : ∀ (l : List hVr), P l.reverse := by
    intro l
    induction l with
    | nil => exact h0
    | cons x l ih => rw [List.reverse_cons]; exact hs _ _ ih
  have := h vs.reverse
  rwa [List.reverse_reverse] at this
theorem os_snoc {vs : List hVr} {v : hVr} : Os (vs ++ [v]) ↔ Os vs ∧ vs.length < 30 ∧ Ov vs v := by
  constructor
  · intro ⟨h1, h2⟩
    rw [List.length_append] at h1
    have h1 : vs.length + 1 ≤ 30 := h1
    refine ⟨⟨by omega, fun n u hu => ?_⟩, by omega, ?_⟩
    · have hn : n < vs.length := by
        rcases Nat.lt_or_ge n vs.length with c | c
        · exact c
        · rw [List.getElem?_eq_none c] at hu; cases hu
      have := h2 n u (by rw [List.getElem?_append_left hn]; exact hu)
      rwa [List.take_append_of_le_length (by omega)] at this
    · have := h2 vs.length v (by simp)
      rwa [List.take_append_of_le_length (by omega), List.take_length] at this
  · intro ⟨⟨h1, h2⟩, h3, h4⟩
    refine ⟨by rw [List.length_append]; show vs.length + 1 ≤ 30; omega, fun n u hu => ?_⟩
    by_cases hn : n < vs.length
    · rw [List.getElem?_append_left hn] at hu
      rw [List.take_append_of_le_length (by omega)]
      exact h2 n u hu
    · have hn' : n = vs.length := by
        rcases Nat.lt_or_ge n (vs.length + 1) with c | c
        · omega
        · rw [List.getElem?_eq_none (by rw [List.length_append]; exact c)] at hu; cases hu
      subst hn'
      rw [List.take_append_of_le_length (by omega), List.take_length]
      simp at hu
      rw [← hu]; exact h4
theorem os_take {vs : List hVr} (h : Os vs) (n : Nat) : Os (vs.take n) := by
  refine ⟨by have := h.1; rw [List.length_take]; omega, fun k v hk => ?_⟩
  have hkn : k < n := by
    rcases Nat.lt_or_ge k n with c | c
    · exact c
    · rw [List.getElem?_eq_none (by rw [List.length_take]; omega)] at hk; cases hk
  rw [List.getElem?_take_of_lt hkn] at hk
  rw [List.take_take, Nat.min_eq_left (by omega)]
  exact h.2 k v hk
/-- keys and times of the jobs -/
def jl (vs : List hVr) : List (Nat × Nat) := (vs.filter (fun v => decide (v_how v = 1))).map (fun v => (v_tu v / 30, v_ti v))
theorem jl_len (vs : List hVr) : (jl vs).length = nput vs := by simp [jl, nput]
theorem jl_snoc (vs : List hVr) (v : hVr) : jl (vs ++ [v]) = jl vs ++ (if v_how v = 1 then [(v_tu v / 30, v_ti v)] else []) := by
  unfold jl
  rw [List.filter_append, List.map_append]
  by_cases h : v_how v = 1
  · simp [h]
  · simp [h]
theorem nput_le (vs : List hVr) : nput vs ≤ vs.length := List.length_filter_le _ _
theorem jl_px (vs : List hVr) (v : hVr) {j : Nat} {p : Nat × Nat} (h : (jl vs)[j]? = some p) : (jl (vs ++ [v]))[j]? = some p := by
  rw [jl_snoc]
  have : j < (jl vs).length := by
    rcases Nat.lt_or_ge j (jl vs).length with c | c
    · exact c
    · rw [List.getElem?_eq_none c] at h; cases h
  rw [List.getElem?_append_left this]; exact h
/-- a bag's turns are turns of jobs -/
def Jt (vs : List hVr) (t : Nat) : Prop := t % 30 < nput vs ∧ ∃ c, (jl vs)[t % 30]? = some (t / 30, c) ∧ t < 30000 ∧ 1 ≤ c ∧ c ≤ 99
theorem Jt.snoc {vs : List hVr} {t : Nat} (h : Jt vs t) (v : hVr) : Jt (vs ++ [v]) t := by
  obtain ⟨h1, c, h2, h3⟩ := h
  refine ⟨by rw [nput_snoc]; omega, c, jl_px vs v h2, h3⟩
theorem getD_snoc {α : Type} (l : List α) (x d : α) : (l ++ [x]).getD l.length d = x := by simp [List.getD_eq_getElem?_getD]
theorem getD_app {α : Type} (l : List α) (x d : α) {j : Nat} (h : j < l.length) : (l ++ [x]).getD j d = l.getD j d := by simp [List.getD_eq_getElem?_getD, List.getElem?_append_left h]
theorem getD_out {α : Type} (l : List α) (d : α) {j : Nat} (h : l.length ≤ j) : l.getD j d = d := by simp [List.getD_eq_getElem?_getD, List.getElem?_eq_none h]
def Bo (w : Nat) (vs : List hVr) : Prop := (b_all w vs).length = vs.length ∧ ∀ j, j < vs.length → So ((b_all w vs).getD j []) ∧ ((b_all w vs).getD j []).length ≤ 24 ∧ (∀ t ∈ (b_all w vs).getD j [], Jt vs t) ∧ ((b_all w vs).getD j []).length ≤ ((b_all 99 vs).getD j []).length
theorem ov_new {vs : List hVr} {v : hVr} (h30 : vs.length < 30) (h1 : v_how v = 1) (h : ∃ k, k ≤ 999 ∧ v_tu v = k * 30 + nput vs) (h2 : 1 ≤ v_ti v ∧ v_ti v ≤ 99) : Jt (vs ++ [v]) (v_tu v) := by
  obtain ⟨k, hk, e⟩ := h
  have hn := nput_le vs
  have e1 : v_tu v % 30 = nput vs := by omega
  refine ⟨by rw [nput_snoc, if_pos h1]; omega, v_ti v, ?_, by omega, h2.1, h2.2⟩
  rw [e1, jl_snoc, if_pos h1, ← jl_len]
  simp
theorem bo_all (w : Nat) (vs : List hVr) : Os vs → Bo w vs ∧ (b_all 99 vs).length = vs.length := by
  refine snoc_ind (P := fun vs => Os vs → Bo w vs ∧ (b_all 99 vs).length = vs.length) ?_ ?_ vs
  · intro _
    exact ⟨⟨rfl, fun j hj => by simp at hj⟩, rfl⟩
  · intro vs v ih hos
    obtain ⟨ho, h30, hv⟩ := os_snoc.mp hos
    obtain ⟨⟨hl, hb⟩, hl99⟩ := ih ho
    have e1 : b_all w (vs ++ [v]) = b_all w vs ++ [b_step w (b_all w vs) v] := b_snoc w vs v
    have e2 : b_all 99 (vs ++ [v]) = b_all 99 vs ++ [b_step 99 (b_all 99 vs) v] := b_snoc 99 vs v
    refine ⟨⟨by rw [e1, List.length_append, List.length_append, hl]; rfl, fun j hj => ?_⟩, by rw [e2, List.length_append, List.length_append, hl99]; rfl⟩
    rw [List.length_append] at hj
    have hj : j < vs.length + 1 := hj
    by_cases hjl : j < vs.length
    · rw [e1, e2, getD_app _ _ _ (by omega), getD_app _ _ _ (by omega)]
      obtain ⟨g1, g2, g3, g4⟩ := hb j hjl
      exact ⟨g1, g2, fun t ht => (g3 t ht).snoc v, g4⟩
    · have ej : j = vs.length := by omega
      have q1 : (b_all w vs ++ [b_step w (b_all w vs) v]).getD j [] = b_step w (b_all w vs) v := by rw [ej, ← hl]; exact getD_snoc _ _ _
      have q2 : (b_all 99 vs ++ [b_step 99 (b_all 99 vs) v]).getD j [] = b_step 99 (b_all 99 vs) v := by rw [ej, ← hl99]; exact getD_snoc _ _ _
      rw [e1, e2, q1, q2]
      have n99 : (b_all 99 vs).length ≠ 99 := by omega
      rcases hv with h0 | ⟨h1, ho1, ht, t1, t2, hsz⟩ | ⟨h2, ho1, ho2, hsz⟩ | ⟨h3, ho1, hsz⟩
      · simp only [b_step, h0]
        refine ⟨List.Pairwise.nil, by simp, fun t ht => by simp at ht, by simp⟩
      · obtain ⟨g1, g2, g3, g4⟩ := hb (v_of v) ho1
        have eb : b_step 99 (b_all 99 vs) v = ins (v_tu v) ((b_all 99 vs).getD (v_of v) []) := by simp only [b_step, if_pos h1, if_neg n99]
        have l99 := (ins_perm (v_tu v) ((b_all 99 vs).getD (v_of v) [])).length_eq
        rw [List.length_cons] at l99
        rw [eb]
        by_cases c : (b_all w vs).length = w
        · have ew : b_step w (b_all w vs) v = (b_all w vs).getD (v_of v) [] := by simp only [b_step, if_pos h1, if_pos c]
          rw [ew]
          exact ⟨g1, g2, fun t ht => (g3 t ht).snoc v, by omega⟩
        · have ew : b_step w (b_all w vs) v = ins (v_tu v) ((b_all w vs).getD (v_of v) []) := by simp only [b_step, if_pos h1, if_neg c]
          have lw := (ins_perm (v_tu v) ((b_all w vs).getD (v_of v) [])).length_eq
          rw [List.length_cons] at lw
          rw [ew]
          refine ⟨ins_so _ g1, by omega, fun t htt => ?_, by omega⟩
          rcases List.mem_cons.mp ((ins_perm _ _).mem_iff.mp htt) with e | e
          · rw [e]; exact ov_new h30 h1 ht ⟨t1, t2⟩
          · exact (g3 t e).snoc v
      · obtain ⟨g1, g2, g3, g4⟩ := hb (v_of v) ho1
        obtain ⟨k1, k2, k3, k4⟩ := hb (v_ot v) ho2
        have eb : b_step 99 (b_all 99 vs) v = mix ((b_all 99 vs).getD (v_of v) []) ((b_all 99 vs).getD (v_ot v) []) := by simp [b_step, h2]
        have ew : b_step w (b_all w vs) v = mix ((b_all w vs).getD (v_of v) []) ((b_all w vs).getD (v_ot v) []) := by simp [b_step, h2]
        have l1 := (mix_perm ((b_all 99 vs).getD (v_of v) []) ((b_all 99 vs).getD (v_ot v) [])).length_eq
        have l2 := (mix_perm ((b_all w vs).getD (v_of v) []) ((b_all w vs).getD (v_ot v) [])).length_eq
        rw [List.length_append] at l1 l2
        rw [eb, ew]
        refine ⟨mix_so g1 k1, by omega, fun t htt => ?_, by omega⟩
        rcases List.mem_append.mp ((mix_perm _ _).mem_iff.mp htt) with e | e
        · exact (g3 t e).snoc v
        · exact (k3 t e).snoc v
      · obtain ⟨g1, g2, g3, g4⟩ := hb (v_of v) ho1
        have eb : b_step 99 (b_all 99 vs) v = ((b_all 99 vs).getD (v_of v) []).tail := by simp [b_step, h3]
        have ew : b_step w (b_all w vs) v = ((b_all w vs).getD (v_of v) []).tail := by simp [b_step, h3]
        rw [eb, ew]
        refine ⟨g1.tail, by rw [List.length_tail]; omega, fun t ht => (g3 t (List.mem_of_mem_tail ht)).snoc v, by rw [List.length_tail, List.length_tail]; omega⟩
