/-! what a tape says -/
def sz (vs : List hVr) (j : Nat) : Nat := ((b_all 99 vs).getD j []).length
def e_num (bs q : List Nat) (lo hi : Nat) : Except (Int × Int) Nat := if kd q = 2 then (if lo ≤ vl q ∧ vl q < hi then .ok (vl q) else .error (2, pl bs q)) else .error (1, pl bs q)
def e_end {α : Type} (bs q : List Nat) (a : α) : Except (Int × Int) (α × List Nat) := if kd q = 3 then .ok (a, nx q) else .error (1, pl bs q)
def e_plan (bs q : List Nat) : Except (Int × Int) ((Nat × Nat) × List Nat) :=
  if isw 0 q = false then .error (1, pl bs q) else
  if isw 1 (nx q) = false then .error (1, pl bs (nx q)) else
  match e_num bs (nx (nx q)) 0 2 with
  | .error f => .error f
  | .ok l =>
    if isw 2 (nx (nx (nx q))) = false then .error (1, pl bs (nx (nx (nx q)))) else
    match e_num bs (nx (nx (nx (nx q)))) 1 5 with
    | .error f => .error f
    | .ok h => e_end bs (nx (nx (nx (nx (nx q))))) (l, h)
def e_put (bs : List Nat) (vs : List hVr) (q : List Nat) : Except (Int × Int) (hVr × List Nat) :=
  match e_num bs q 0 vs.length with
  | .error f => .error f
  | .ok o =>
    if 24 ≤ sz vs o then .error (2, pl bs q) else
    match e_num bs (nx q) 0 1000 with
    | .error f => .error f
    | .ok k =>
      if isw 7 (nx (nx q)) = false then .error (1, pl bs (nx (nx q))) else
      match e_num bs (nx (nx (nx q))) 1 100 with
      | .error f => .error f
      | .ok t => e_end bs (nx (nx (nx (nx q)))) (1, o, 0, k * 30 + nput vs, t)
def e_join (bs : List Nat) (vs : List hVr) (q : List Nat) : Except (Int × Int) (hVr × List Nat) :=
  match e_num bs q 0 vs.length with
  | .error f => .error f
  | .ok o =>
    match e_num bs (nx q) 0 vs.length with
    | .error f => .error f
    | .ok o2 => if 24 < sz vs o + sz vs o2 then .error (2, pl bs (nx q)) else e_end bs (nx (nx q)) (2, o, o2, 0, 0)
def e_take (bs : List Nat) (vs : List hVr) (q : List Nat) : Except (Int × Int) (hVr × List Nat) :=
  match e_num bs q 0 vs.length with
  | .error f => .error f
  | .ok o => if sz vs o = 0 then .error (2, pl bs q) else e_end bs (nx q) (3, o, 0, 0, 0)
def e_ver (bs : List Nat) (vs : List hVr) (q : List Nat) : Except (Int × Int) (hVr × List Nat) :=
  if isw 3 q then (if 20 ≤ vs.length then .error (3, pl bs q) else e_end bs (nx q) (0, 0, 0, 0, 0))
  else if isw 4 q then (if 20 ≤ vs.length then .error (3, pl bs q) else e_put bs vs (nx q))
  else if isw 5 q then (if 20 ≤ vs.length then .error (3, pl bs q) else e_join bs vs (nx q))
  else if isw 6 q then (if 20 ≤ vs.length then .error (3, pl bs q) else e_take bs vs (nx q))
  else .error (1, pl bs q)
def e_run (bs : List Nat) : Nat → Nat → Nat → Nat → List hVr → List Nat → Except (Int × Int) (Nat × Nat × Nat × List hVr)
  | 0, li, la, ha, vs, _ => .ok (li, la, ha, vs)
  | n + 1, li, la, ha, vs, q =>
    if kd q = 0 then .ok (li, la, ha, vs) else
    if li = 0 then (match e_plan bs q with | .error f => .error f | .ok r => e_run bs n 1 r.1.1 r.1.2 vs r.2)
    else (match e_ver bs vs q with | .error f => .error f | .ok r => e_run bs n (li + 1) la ha (vs ++ [r.1]) r.2)
/-- what a whole tape says -/
def e_all (bs : List Nat) : Except (Int × Int) (Nat × Nat × Nat × List hVr) := e_run bs 601 0 0 0 [] (bs.dropWhile bBl)
theorem kd0 {q : List Nat} : kd q = 0 ↔ q = [] := by
  cases q with
  | nil => simp [kd]
  | cons x l =>
    constructor
    · intro h
      have h : (if bLe x = true then 1 else if bDi x = true then 2 else if x = 59 then 3 else 4) = 0 := h
      split at h
      · omega
      · split at h
        · omega
        · split at h <;> omega
    · intro h; cases h
theorem nx_lt {q : List Nat} (h : kd q ≠ 0) : (nx q).length < q.length := by
  cases q with
  | nil => exact absurd rfl h
  | cons x l =>
    have h1 : (rs (x :: l)).length ≤ l.length := by
      show (if bLe x = true then l.dropWhile bLe else if bDi x = true then l.dropWhile bDi else l).length ≤ l.length
      split
      · exact len_drop_le
      · split
        · exact len_drop_le
        · exact Nat.le_refl _
    have h2 : (nx (x :: l)).length ≤ (rs (x :: l)).length := len_drop_le
    simp only [List.length_cons]
    omega
theorem nx_le (q : List Nat) : (nx q).length ≤ q.length := by
  by_cases h : kd q = 0
  · rw [kd0.mp h]; simp [nx, rs]
  · exact Nat.le_of_lt (nx_lt h)
theorem isw_kd {w : Nat} {q : List Nat} (h : isw w q = true) : kd q = 1 := by unfold isw at h; simp at h; exact h.1
theorem num_ok {bs q : List Nat} {lo hi v : Nat} (h : e_num bs q lo hi = .ok v) : kd q = 2 ∧ v = vl q ∧ lo ≤ v ∧ v < hi := by
  unfold e_num at h
  split at h
  · rename_i c
    split at h
    · rename_i c2
      injection h with h
      exact ⟨c, h.symm, by omega, by omega⟩
    · cases h
  · cases h
theorem end_ok {α : Type} {bs q q' : List Nat} {a b : α} (h : e_end bs q a = .ok (b, q')) : kd q = 3 ∧ b = a ∧ q' = nx q := by
  unfold e_end at h
  split at h
  · rename_i c
    injection h with h
    injection h with h1 h2
    exact ⟨c, h1.symm, h2.symm⟩
  · cases h
theorem put_spec {bs q q' : List Nat} {vs : List hVr} {v : hVr} (h : e_put bs vs q = .ok (v, q')) : Ov vs v ∧ q'.length < q.length := by
  unfold e_put at h
  split at h
  · cases h
  · rename_i o h1
    split at h
    · cases h
    · rename_i c1
      split at h
      · cases h
      · rename_i k h2
        split at h
        · cases h
        · rename_i c2
          split at h
          · cases h
          · rename_i t h3
            obtain ⟨a1, a2, a3, a4⟩ := num_ok h1
            obtain ⟨b1, b2, b3, b4⟩ := num_ok h2
            obtain ⟨d1, d2, d3, d4⟩ := num_ok h3
            obtain ⟨e1, e2, e3⟩ := end_ok h
            have n1 := nx_lt (q := q) (by omega)
            have n2 := nx_le (nx q)
            have n3 := nx_le (nx (nx q))
            have n4 := nx_le (nx (nx (nx q)))
            have n5 := nx_le (nx (nx (nx (nx q))))
            refine ⟨Or.inr (Or.inl ?_), by rw [e3]; omega⟩
            rw [e2]
            refine ⟨rfl, a4, ⟨k, by omega, rfl⟩, d3, by show t ≤ 99; omega, ?_⟩
            have : sz vs o < 24 := by omega
            show sz vs o ≤ 23
            omega
theorem join_spec {bs q q' : List Nat} {vs : List hVr} {v : hVr} (h : e_join bs vs q = .ok (v, q')) : Ov vs v ∧ q'.length < q.length := by
  unfold e_join at h
  split at h
  · cases h
  · rename_i o h1
    split at h
    · cases h
    · rename_i o2 h2
      split at h
      · cases h
      · rename_i c1
        obtain ⟨a1, a2, a3, a4⟩ := num_ok h1
        obtain ⟨b1, b2, b3, b4⟩ := num_ok h2
        obtain ⟨e1, e2, e3⟩ := end_ok h
        have n1 := nx_lt (q := q) (by omega)
        have n2 := nx_le (nx q)
        have n3 := nx_le (nx (nx q))
        refine ⟨Or.inr (Or.inr (Or.inl ?_)), by rw [e3]; omega⟩
        rw [e2]
        exact ⟨rfl, a4, b4, by show sz vs o + sz vs o2 ≤ 24; omega⟩
theorem take_spec {bs q q' : List Nat} {vs : List hVr} {v : hVr} (h : e_take bs vs q = .ok (v, q')) : Ov vs v ∧ q'.length < q.length := by
  unfold e_take at h
  split at h
  · cases h
  · rename_i o h1
    split at h
    · cases h
    · rename_i c1
      obtain ⟨a1, a2, a3, a4⟩ := num_ok h1
      obtain ⟨e1, e2, e3⟩ := end_ok h
      have n1 := nx_lt (q := q) (by omega)
      have n2 := nx_le (nx q)
      refine ⟨Or.inr (Or.inr (Or.inr ?_)), by rw [e3]; omega⟩
      rw [e2]
      exact ⟨rfl, a4, by show 1 ≤ sz vs o; omega⟩
theorem ver_spec {bs q q' : List Nat} {vs : List hVr} {v : hVr} (h : e_ver bs vs q = .ok (v, q')) : Ov vs v ∧ q'.length < q.length ∧ vs.length < 20 := by
  unfold e_ver at h
  have nk : ∀ w, isw w q = true → (nx q).length < q.length := fun w hw => nx_lt (by rw [isw_kd hw]; omega)
  split at h
  · rename_i c
    split at h
    · cases h
    · rename_i c2
      obtain ⟨e1, e2, e3⟩ := end_ok h
      have n1 := nk 3 c
      have n2 := nx_le (nx q)
      exact ⟨Or.inl (by rw [e2]; rfl), by rw [e3]; omega, by omega⟩
  · split at h
    · rename_i c
      split at h
      · cases h
      · obtain ⟨a, b⟩ := put_spec h
        have := nk 4 c
        exact ⟨a, by omega, by omega⟩
    · split at h
      · rename_i c
        split at h
        · cases h
        · obtain ⟨a, b⟩ := join_spec h
          have := nk 5 c
          exact ⟨a, by omega, by omega⟩
      · split at h
        · rename_i c
          split at h
          · cases h
          · obtain ⟨a, b⟩ := take_spec h
            have := nk 6 c
            exact ⟨a, by omega, by omega⟩
        · cases h
theorem plan_spec {bs q q' : List Nat} {r : Nat × Nat} (h : e_plan bs q = .ok (r, q')) : r.1 ≤ 1 ∧ 1 ≤ r.2 ∧ r.2 ≤ 4 ∧ q'.length < q.length := by
  unfold e_plan at h
  split at h
  · cases h
  · rename_i c0
    have c0 : isw 0 q = true := by simpa using c0
    split at h
    · cases h
    · split at h
      · cases h
      · rename_i l h1
        split at h
        · cases h
        · split at h
          · cases h
          · rename_i t h2
            obtain ⟨a1, a2, a3, a4⟩ := num_ok h1
            obtain ⟨b1, b2, b3, b4⟩ := num_ok h2
            obtain ⟨e1, e2, e3⟩ := end_ok h
            have n1 := nx_lt (q := q) (by rw [isw_kd c0]; omega)
            have n2 := nx_le (nx q)
            have n3 := nx_le (nx (nx q))
            have n4 := nx_le (nx (nx (nx q)))
            have n5 := nx_le (nx (nx (nx (nx q))))
            have n6 := nx_le (nx (nx (nx (nx (nx q)))))
            rw [e2, e3]
            exact ⟨by show l ≤ 1; omega, b3, by show t ≤ 4; omega, by omega⟩
