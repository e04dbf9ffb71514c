/-! the class's bags: jobs, how often, how many more -/
theorem hp_tsw {x lo : Int} {As : List hRs} {D : hRs} {i : Nat} (hx : hv_R32 x) (e : x = lo + (i : Int)) (hi : i < As.length) : hv_tsw x lo As D = As.getD i D := by
  rw [hv_tsw, if_pos hx, if_pos ⟨by omega, by omega⟩, show (x - lo).toNat = i by omega]
theorem hp_tsw_d {x lo : Int} {As : List hRs} {D : hRs} (hx : hv_R32 x) (e : x < lo ∨ lo + (As.length : Int) ≤ x) : hv_tsw x lo As D = D := by
  rw [hv_tsw, if_pos hx, if_neg (by omega)]
theorem hI_toInt {a : Int} (h : hv_R32 a) : (hv_I a).toInt = a := by
  unfold hv_I
  rw [Int32.toInt_ofInt_of_le] <;> (unfold hv_R32 at h; omega)
theorem hp_rem {x : Nat} (hx : x < 2147483648) : hv_rem (x : Int) 30 = ((x % 30 : Nat) : Int) := by
  unfold hv_rem
  have h1 : (hv_I (x : Int)).toInt = (x : Int) := hI_toInt (by omega)
  have h2 : (hv_I 30).toInt = 30 := rfl
  have h3 : (hv_I (x : Int) / hv_I 30).toInt = ((x / 30 : Nat) : Int) := by
    rw [Int32.toInt_div, h1, h2]
    rw [Int.tdiv_eq_ediv_of_nonneg (by omega)]
    rw [Int.bmod_eq_of_le] <;> omega
  rw [Int32.toInt_sub, Int32.toInt_mul, h3, h1, h2]
  rw [Int.bmod_eq_of_le (n := ((x / 30 : Nat) : Int) * 30) (by omega) (by omega), Int.bmod_eq_of_le (by omega) (by omega)]
  omega
theorem g_jobAt {b j : Nat} {m : hMem} {l : List Nat} (h : Bg b m j l) (hj : j < 30) {i : Int} (hi : hv_R32 i) : f_X0_jobAt b (j : Int) i m = some (if 0 ≤ i ∧ i < (l.length : Int) then ((l.getD i.toNat 0 % 30 : Nat) : Int) else -1, m) := by
  have h24 := h.2.1
  unfold f_X0_jobAt
  by_cases c0 : i < 0
  · rw [hp_lt_t hi (by decide) c0, if_neg (by omega)]; rfl
  · rw [hp_lt_f hi (by decide) (by omega), g_size h hj, hp_b]
    by_cases c1 : i < (l.length : Int)
    · have ht := g_turn (i := i.toNat) h hj (by omega)
      rw [show ((i.toNat : Nat) : Int) = i by omega] at ht
      have hlt := getD_lt h.2.2.2 (i := i.toNat) (by omega)
      rw [hp_lt_t hi (by omega) c1, ht, hp_b, if_pos ⟨by omega, c1⟩]
      unfold f_X3_jobOfTurn
      rw [hp_rem (by omega)]
      rfl
    · rw [hp_lt_f hi (by omega) (by omega), if_neg (by omega)]; rfl
theorem g_timesL {b j t : Nat} {m : hMem} (hj : j < 30) (ht30 : t < 30000) : ∀ (r p : List Nat) (n k : Nat), r.length < n → Bg b m j (p ++ r) → L_X0_timesOf_5 b n (j : Int) (t : Int) (k : Int) (p.length : Int) m = some (((k + r.count t : Nat) : Int), m)
  | _, _, 0, _, hn, _ => by omega
  | [], p, n + 1, k, hn, h => by
    have h24 := h.2.1
    rw [List.append_nil] at h24
    show B_X0_timesOf_5 b (L_X0_timesOf_5 b n) (j : Int) (t : Int) (k : Int) (p.length : Int) m = _
    unfold B_X0_timesOf_5
    rw [g_size h hj, hp_b, List.append_nil, hp_lt_f (by omega) (by omega) (by omega)]
    rfl
  | x :: r, p, n + 1, k, hn, h => by
    have h24 := h.2.1
    rw [List.length_append, List.length_cons] at h24
    simp only [List.length_cons] at hn
    have hx := h.2.2.2 x (by simp)
    have ht := g_turn (i := p.length) h hj (by simp)
    rw [getD_mid] at ht
    have hs1 := h
    rw [show p ++ x :: r = (p ++ [x]) ++ r by simp] at hs1
    show B_X0_timesOf_5 b (L_X0_timesOf_5 b n) (j : Int) (t : Int) (k : Int) (p.length : Int) m = _
    unfold B_X0_timesOf_5
    rw [g_size h hj, hp_b, List.length_append, List.length_cons, hp_lt_t (by omega) (by omega) (by omega), ht, hp_b]
    by_cases c : x = t
    · have g := g_timesL hj ht30 r (p ++ [x]) n (k + 1) (by omega) hs1
      rw [hp_eq_t (by omega) (by omega) (by omega), hp_set, hp_set, c, List.count_cons_self]
      rw [List.length_append, List.length_singleton] at g
      rw [show k + (r.count t + 1) = k + 1 + r.count t by omega]
      exact g
    · have g := g_timesL hj ht30 r (p ++ [x]) n k (by omega) hs1
      rw [hp_eq_f (by omega) (by omega) (by omega), hp_set, List.count_cons_of_ne c]
      rw [List.length_append, List.length_singleton] at g
      exact g
theorem g_times {b j t : Nat} {m : hMem} {l : List Nat} (h : Bg b m j l) (hj : j < 30) (ht30 : t < 30000) : f_X0_timesOf b (j : Int) (t : Int) m = some ((l.count t : Int), m) := by
  have h24 := h.2.1
  have g := g_timesL (t := t) hj ht30 l [] hv_FU 0 (fu_lt (by omega)) h
  rw [Nat.zero_add] at g
  exact g
def exc : List Nat → List Nat → Nat
  | [], _ => 0
  | x :: a, c => if (c.dropWhile (fun y => decide (y < x))).head? = some x then exc a (c.dropWhile (fun y => decide (y < x))).tail else 1 + exc a (c.dropWhile (fun y => decide (y < x)))
theorem g_ex27 {b v j t e : Nat} {m : hMem} {R8 : Int → Int → Int → Int → Int → hMem → hRs} {i : Int} (hj : j < 30) (ht30 : t < 30000) : ∀ (r p : List Nat) (n : Nat), r.length < n → Bg b m j (p ++ r) →
    L_X0_excess_27 b R8 n (v : Int) (j : Int) (e : Int) (p.length : Int) i (t : Int) m = if (r.dropWhile (fun y => decide (y < t))).head? = some t then R8 (v : Int) (j : Int) (e : Int) (((p ++ r.takeWhile (fun y => decide (y < t))).length + 1 : Nat) : Int) (i + 1) m else R8 (v : Int) (j : Int) ((e + 1 : Nat) : Int) (((p ++ r.takeWhile (fun y => decide (y < t))).length : Nat) : Int) (i + 1) m
  | _, _, 0, hn, _ => by omega
  | [], p, n + 1, hn, h => by
    have h24 := h.2.1
    rw [List.append_nil] at h24
    show B_X0_excess_27 b R8 (L_X0_excess_27 b R8 n) (v : Int) (j : Int) (e : Int) (p.length : Int) i (t : Int) m = _
    unfold B_X0_excess_27 J_X0_excess_55
    have hsz := g_size h hj
    rw [List.append_nil] at hsz
    rw [hsz, hp_b, hp_lt_f (by omega) (by omega) (by omega), hsz, hp_b, hp_lt_f (by omega) (by omega) (by omega), hp_set, hp_set]
    simp
  | x :: r, p, n + 1, hn, h => by
    have h24 := h.2.1
    rw [List.length_append, List.length_cons] at h24
    simp only [List.length_cons] at hn
    have hx := h.2.2.2 x (by simp)
    have ht := g_turn (i := p.length) h hj (by simp)
    rw [getD_mid] at ht
    have hs1 := h
    rw [show p ++ x :: r = (p ++ [x]) ++ r by simp] at hs1
    have hsz := g_size h hj
    rw [List.length_append, List.length_cons] at hsz
    show B_X0_excess_27 b R8 (L_X0_excess_27 b R8 n) (v : Int) (j : Int) (e : Int) (p.length : Int) i (t : Int) m = _
    unfold B_X0_excess_27 J_X0_excess_55
    rw [hsz, hp_b, hp_lt_t (by omega) (by omega) (by omega), ht, hp_b]
    by_cases c : x < t
    · have g := g_ex27 (v := v) (e := e) (R8 := R8) (i := i) hj ht30 r (p ++ [x]) n (by omega) hs1
      rw [hp_lt_t (by omega) (by omega) (by omega), hp_set, List.dropWhile_cons_of_pos (by simp [c]), List.takeWhile_cons_of_pos (by simp [c])]
      rw [show p ++ x :: r.takeWhile (fun y => decide (y < t)) = (p ++ [x]) ++ r.takeWhile (fun y => decide (y < t)) by simp, ← g]
      rw [List.length_append, List.length_singleton]
      rfl
    · rw [hp_lt_f (by omega) (by omega) (by omega), hsz, hp_b, hp_lt_t (by omega) (by omega) (by omega), ht, hp_b]
      rw [List.dropWhile_cons_of_neg (by simp [c]), List.takeWhile_cons_of_neg (by simp [c]), List.append_nil, List.head?_cons]
      by_cases c2 : x = t
      · rw [hp_eq_t (by omega) (by omega) (by omega), hp_set, hp_set, if_pos (by rw [c2])]
        rfl
      · rw [hp_eq_f (by omega) (by omega) (by omega), hp_set, hp_set, if_neg (by intro z; exact c2 (by injection z))]
        rfl
theorem g_excL {b v j : Nat} {m : hMem} (hv : v < 30) (hj : j < 30) : ∀ (a q : List Nat) (n e : Nat) (r p : List Nat), a.length < n → Bg b m v (q ++ a) → Bg b m j (p ++ r) →
    L_X0_excess_8 b n (v : Int) (j : Int) (e : Int) (p.length : Int) (q.length : Int) m = some (((e + exc a r : Nat) : Int), m)
  | _, _, 0, _, _, _, hn, _, _ => by omega
  | [], q, n + 1, e, r, p, hn, hq, hs => by
    have hq2 := hq.2.1
    rw [List.append_nil] at hq2
    show B_X0_excess_8 b (L_X0_excess_8 b n) (v : Int) (j : Int) (e : Int) (p.length : Int) (q.length : Int) m = _
    unfold B_X0_excess_8
    rw [g_size hq hv, hp_b, List.append_nil, hp_lt_f (by omega) (by omega) (by omega)]
    rfl
  | x :: a, q, n + 1, e, r, p, hn, hq, hs => by
    have hq2 := hq.2.1
    rw [List.length_append, List.length_cons] at hq2
    simp only [List.length_cons] at hn
    have hx := hq.2.2.2 x (by simp)
    have ht := g_turn (i := q.length) hq hv (by simp)
    rw [getD_mid] at ht
    have hs24 := hs.2.1
    rw [List.length_append] at hs24
    have er : r = r.takeWhile (fun y => decide (y < x)) ++ r.dropWhile (fun y => decide (y < x)) := List.takeWhile_append_dropWhile.symm
    have hq1 := hq
    rw [show q ++ x :: a = (q ++ [x]) ++ a by simp] at hq1
    have hs1 := hs
    rw [show p ++ r = (p ++ r.takeWhile (fun y => decide (y < x))) ++ r.dropWhile (fun y => decide (y < x)) by rw [List.append_assoc, ← er]] at hs1
    show B_X0_excess_8 b (L_X0_excess_8 b n) (v : Int) (j : Int) (e : Int) (p.length : Int) (q.length : Int) m = _
    unfold B_X0_excess_8
    rw [g_size hq hv, hp_b, List.length_append, List.length_cons, hp_lt_t (by omega) (by omega) (by omega), ht, hp_b]
    rw [g_ex27 (t := x) (e := e) (v := v) (R8 := L_X0_excess_8 b n) (i := (q.length : Int)) hj hx r p hv_FU (fu_lt (by omega)) hs]
    unfold exc
    by_cases c : (r.dropWhile (fun y => decide (y < x))).head? = some x
    · rw [if_pos c, if_pos c]
      obtain ⟨d, hd⟩ : ∃ d, r.dropWhile (fun y => decide (y < x)) = x :: d := by
        cases h : r.dropWhile (fun y => decide (y < x)) with
        | nil => rw [h] at c; simp at c
        | cons y d => rw [h] at c; simp at c; exact ⟨d, by rw [c]⟩
      rw [hd] at hs1 ⊢
      rw [show (p ++ r.takeWhile (fun y => decide (y < x))) ++ x :: d = ((p ++ r.takeWhile (fun y => decide (y < x))) ++ [x]) ++ d by simp] at hs1
      have g := g_excL hv hj a (q ++ [x]) n e d ((p ++ r.takeWhile (fun y => decide (y < x))) ++ [x]) (by omega) hq1 hs1
      rw [List.length_append (bs := [x]), List.length_singleton, List.length_append (as := q), List.length_singleton] at g
      exact g
    · rw [if_neg c, if_neg c]
      have g := g_excL hv hj a (q ++ [x]) n (e + 1) (r.dropWhile (fun y => decide (y < x))) (p ++ r.takeWhile (fun y => decide (y < x))) (by omega) hq1 hs1
      rw [List.length_append (as := q), List.length_singleton] at g
      rw [show e + (1 + exc a (r.dropWhile (fun y => decide (y < x)))) = e + 1 + exc a (r.dropWhile (fun y => decide (y < x))) by omega]
      exact g
theorem g_excess {b v j : Nat} {m : hMem} {a c : List Nat} (hv : v < 30) (hj : j < 30) (ha : Bg b m v a) (hc : Bg b m j c) : f_X0_excess b (v : Int) (j : Int) m = some ((exc a c : Int), m) := by
  have h24 := ha.2.1
  have g := g_excL hv hj a [] hv_FU 0 c [] (fu_lt (by omega)) ha hc
  rw [Nat.zero_add] at g
  exact g
/-- a version's bag is made -/
theorem g_make {b w : Nat} {vs : List hVr} {v : hVr} {m : hMem} {x2 x3 x4 x5 : Int} (hos : Os (vs ++ [v])) (hB : ∀ j, j < vs.length → Bg b m j ((b_all w vs).getD j [])) (hw : v_how v = 1 → vs.length ≠ w) (ga : Ga v x2 x3 x4 x5) :
    ∃ m', f_X0_make b (vs.length : Int) x2 x3 x4 x5 m = some (0, m') ∧ (∀ j, j < (vs ++ [v]).length → Bg b m' j ((b_all w (vs ++ [v])).getD j [])) ∧ Fg b vs.length m m' := by
  obtain ⟨ho, h30, hv⟩ := os_snoc.mp hos
  obtain ⟨g1, g2, g3, g4⟩ := ga
  obtain ⟨⟨hb1, hb2⟩, hb99⟩ := bo_all w vs ho
  have eb : b_all w (vs ++ [v]) = b_all w vs ++ [b_step w (b_all w vs) v] := b_snoc w vs v
  have fin : ∀ m', Bg b m' vs.length (b_step w (b_all w vs) v) → Fg b vs.length m m' → ∀ j, j < (vs ++ [v]).length → Bg b m' j ((b_all w (vs ++ [v])).getD j []) := by
    intro m' h1 h2 j hj
    rw [List.length_append] at hj
    have hj : j < vs.length + 1 := hj
    rw [eb]
    by_cases c : j < vs.length
    · rw [getD_app _ _ _ (by omega)]
      exact (hB j c).fg h2 (by omega)
    · have ej : j = vs.length := by omega
      have e2 : (b_all w vs ++ [b_step w (b_all w vs) v]).getD j [] = b_step w (b_all w vs) v := by rw [ej, ← hb1]; exact getD_snoc _ _ _
      rw [e2, ej]
      exact h1
  unfold f_X0_make
  rcases hv with h0 | ⟨h1, ho1, ⟨k, hk, et⟩, t1, t2, hsz⟩ | ⟨h2, ho1, ho2, hsz⟩ | ⟨h3, ho1, hsz⟩
  · have es : b_step w (b_all w vs) v = [] := by simp [b_step, h0]
    obtain ⟨m', a1, a2, a3⟩ := g_zero (b := b) (m := m) (v := vs.length) (by omega)
    rw [es] at fin
    refine ⟨m', ?_, fin m' a2 a3, a3⟩
    rw [hp_tsw_d (by omega) (by omega), a1, hp_b]
    rfl
  · have es : b_step w (b_all w vs) v = ins (v_tu v) ((b_all w vs).getD (v_of v) []) := by
      unfold b_step
      rw [if_pos h1, if_neg (by have := hw h1; omega)]
    have nn := nput_le vs
    have sz := (hb2 _ ho1).2.2.2
    obtain ⟨m', a1, a2, a3⟩ := g_copyWith (b := b) (m := m) (v := vs.length) (t := v_tu v) (by omega) (by omega) (by omega) (hB _ ho1) (by omega) (by omega)
    rw [es] at fin
    refine ⟨m', ?_, fin m' a2 a3, a3⟩
    rw [hp_tsw (i := 0) (by omega) (by omega) (by simp), List.getD_cons_zero, g2 (by omega), g4 h1, a1, hp_b]
    rfl
  · have es : b_step w (b_all w vs) v = mix ((b_all w vs).getD (v_of v) []) ((b_all w vs).getD (v_ot v) []) := by simp [b_step, h2]
    have s1 := (hb2 _ ho1).2.2.2
    have s2 := (hb2 _ ho2).2.2.2
    obtain ⟨m', a1, a2, a3⟩ := g_mix (b := b) (m := m) (v := vs.length) (by omega) (by omega) (by omega) (by omega) (by omega) (hB _ ho1) (hB _ ho2) (by omega)
    rw [es] at fin
    refine ⟨m', ?_, fin m' a2 a3, a3⟩
    rw [hp_tsw (i := 1) (by omega) (by omega) (by simp), List.getD_cons_succ, List.getD_cons_zero, g2 (by omega), g3 h2, a1, hp_b]
    rfl
  · have es : b_step w (b_all w vs) v = ((b_all w vs).getD (v_of v) []).tail := by simp [b_step, h3]
    obtain ⟨m', a1, a2, a3⟩ := g_copy (b := b) (m := m) (v := vs.length) (by omega) (by omega) (by omega) (hB _ ho1) 1 (by omega)
    rw [es] at fin
    rw [List.drop_one] at a2
    refine ⟨m', ?_, fin m' a2 a3, a3⟩
    rw [hp_tsw (i := 2) (by omega) (by omega) (by simp), List.getD_cons_succ, List.getD_cons_succ, List.getD_cons_zero, g2 (by omega)]
    have a1 : f_X0_copy b (vs.length : Int) (v_of v : Int) 1 m = some (0, m') := a1
    rw [a1, hp_b]
    rfl
