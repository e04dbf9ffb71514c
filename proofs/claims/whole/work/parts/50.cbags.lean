/-! the class's bags -/
def Bg (b : Nat) (m : hMem) (j : Nat) (l : List Nat) : Prop := m (b + 2) j = (l.length : Int) ∧ l.length ≤ 24 ∧ (∀ i, i < l.length → m (b + 1) (j * 24 + i) = ((l.getD i 0 : Nat) : Int)) ∧ ∀ t ∈ l, t < 30000
def Fg (b v : Nat) (m m' : hMem) : Prop := (∀ k, k ≠ b + 1 → k ≠ b + 2 → m' k = m k) ∧ (∀ j, j ≠ v → m' (b + 2) j = m (b + 2) j) ∧ ∀ i, (i < v * 24 ∨ v * 24 + 24 ≤ i) → m' (b + 1) i = m (b + 1) i
theorem Fg.refl (b v : Nat) (m : hMem) : Fg b v m m := ⟨fun _ _ _ => rfl, fun _ _ => rfl, fun _ _ => rfl⟩
theorem Fg.trans {b v : Nat} {m1 m2 m3 : hMem} (h1 : Fg b v m1 m2) (h2 : Fg b v m2 m3) : Fg b v m1 m3 := ⟨fun k k1 k2 => (h2.1 k k1 k2).trans (h1.1 k k1 k2), fun j hj => (h2.2.1 j hj).trans (h1.2.1 j hj), fun i hi => (h2.2.2 i hi).trans (h1.2.2 i hi)⟩
theorem Bg.fg {b v j : Nat} {m m' : hMem} {l : List Nat} (h : Bg b m j l) (hF : Fg b v m m') (hj : j ≠ v) : Bg b m' j l := by
  obtain ⟨h1, h2, h3, h4⟩ := h
  refine ⟨by rw [hF.2.1 j hj]; exact h1, h2, fun i hi => ?_, h4⟩
  rw [hF.2.2 _ (by omega)]
  exact h3 i hi
theorem Bg.eq {b j : Nat} {m m' : hMem} {l : List Nat} (h : Bg b m j l) (e1 : m' (b + 1) = m (b + 1)) (e2 : m' (b + 2) = m (b + 2)) : Bg b m' j l := by
  obtain ⟨h1, h2, h3, h4⟩ := h
  exact ⟨by rw [e2]; exact h1, h2, fun i hi => by rw [e1]; exact h3 i hi, h4⟩
theorem g_size {b j : Nat} {m : hMem} {l : List Nat} (h : Bg b m j l) (hj : j < 30) : f_X0_sizeOf b (j : Int) m = some ((l.length : Int), m) := by
  unfold f_X0_sizeOf
  rw [fe_at' (by omega) (by omega) (by omega), hp_b, Int.toNat_natCast, h.1]
  rfl
theorem g_turn {b j i : Nat} {m : hMem} {l : List Nat} (h : Bg b m j l) (hj : j < 30) (hi : i < l.length) : f_X0_turnAt b (j : Int) (i : Int) m = some (((l.getD i 0 : Nat) : Int), m) := by
  have := h.2.1
  unfold f_X0_turnAt
  rw [fe_at' (by omega) (by omega) (by omega), hp_b, show ((j : Int) * 24 + (i : Int)).toNat = j * 24 + i by omega, h.2.2.1 i hi]
  rfl
theorem getD_lt {l : List Nat} {n : Nat} (h : ∀ t ∈ l, t < n) {i : Nat} (hi : i < l.length) : l.getD i 0 < n := by
  rw [List.getD_eq_getElem?_getD, List.getElem?_eq_getElem hi]
  exact h _ (List.getElem_mem hi)
theorem g_app {b v : Nat} {m : hMem} {l : List Nat} {t : Nat} (h : Bg b m v l) (hv : v < 30) (hl : l.length < 24) (ht : t < 30000) : ∃ m', f_X0_append b (v : Int) (t : Int) m = some (0, m') ∧ Bg b m' v (l ++ [t]) ∧ Fg b v m m' := by
  obtain ⟨h1, h2, h3, h4⟩ := h
  unfold f_X0_append
  rw [g_size ⟨h1, h2, h3, h4⟩ hv, hp_b, hp_lt_t (by omega) (by decide) (by omega), fe_set (by omega) (by omega) (by omega), hp_b, fe_set (by omega) (by omega) (by omega), hp_b, show ((v : Int) * 24 + (l.length : Int)).toNat = v * 24 + l.length by omega, Int.toNat_natCast]
  refine ⟨_, rfl, ⟨?_, by rw [List.length_append]; show l.length + 1 ≤ 24; omega, fun i hi => ?_, fun x hx => ?_⟩, ⟨fun k k1 k2 => ?_, fun j hj => ?_, fun i hi => ?_⟩⟩
  · rw [hp_up_same, List.length_append]; rfl
  · rw [List.length_append] at hi
    have hi : i < l.length + 1 := hi
    rw [hp_up_k _ _ _ _ (by omega)]
    by_cases e : i = l.length
    · rw [e, hp_up_same, getD_snoc]
    · rw [hp_up_j _ _ _ (by omega), getD_app _ _ _ (by omega)]
      exact h3 i (by omega)
  · rcases List.mem_append.mp hx with hx | hx
    · exact h4 x hx
    · simp at hx; omega
  · rw [hp_up_kk _ _ _ (by omega), hp_up_kk _ _ _ (by omega)]
  · rw [hp_up_j _ _ _ hj, hp_up_k _ _ _ _ (by omega)]
  · rw [hp_up_k _ _ _ _ (by omega), hp_up_j _ _ _ (by omega)]
theorem g_zero {b v : Nat} {m : hMem} (hv : v < 30) : ∃ m', f_X10_set (b + 2) 30 (v : Int) 0 m = some (0, m') ∧ Bg b m' v [] ∧ Fg b v m m' := by
  rw [fe_set (by omega) (by omega) (by omega), Int.toNat_natCast]
  refine ⟨_, rfl, ⟨?_, by simp, fun i hi => by simp at hi, fun x hx => by simp at hx⟩, ⟨fun k k1 k2 => ?_, fun j hj => ?_, fun i hi => ?_⟩⟩
  · rw [hp_up_same]; rfl
  · rw [hp_up_kk _ _ _ (by omega)]
  · rw [hp_up_j _ _ _ hj]
  · rw [hp_up_k _ _ _ _ (by omega)]
theorem getD_mid (p r : List Nat) (x : Nat) : (p ++ x :: r).getD p.length 0 = x := by simp [List.getD_eq_getElem?_getD]
theorem g_copyL {b v j : Nat} (hv : v < 30) (hj : j < 30) (hne : j ≠ v) : ∀ (r p : List Nat) (n : Nat) (acc : List Nat) (m : hMem), r.length < n → Bg b m j (p ++ r) → Bg b m v acc → acc.length + r.length ≤ 24 →
    ∃ m', L_X0_copy_12 b n (v : Int) (j : Int) (p.length : Int) m = some (0, m') ∧ Bg b m' v (acc ++ r) ∧ Fg b v m m'
  | _, _, 0, _, _, hn, _, _, _ => by omega
  | [], p, n + 1, acc, m, hn, hs, ha, hl => by
    refine ⟨m, ?_, by rw [List.append_nil]; exact ha, Fg.refl _ _ _⟩
    show B_X0_copy_12 b (L_X0_copy_12 b n) (v : Int) (j : Int) (p.length : Int) m = _
    unfold B_X0_copy_12
    have := hs.2.1
    rw [g_size hs hj, hp_b]
    rw [List.append_nil] at this ⊢
    rw [hp_lt_f (by omega) (by omega) (by omega)]
    rfl
  | x :: r, p, n + 1, acc, m, hn, hs, ha, hl => by
    have hs2 := hs.2.1
    rw [List.length_append, List.length_cons] at hs2
    simp only [List.length_cons] at hn hl
    have hx := hs.2.2.2 x (by simp)
    have ht := g_turn (i := p.length) hs hj (by simp)
    rw [getD_mid] at ht
    obtain ⟨m1, a1, a2, a3⟩ := g_app ha hv (by omega) hx
    have hs1 := hs.fg a3 hne
    rw [show p ++ x :: r = (p ++ [x]) ++ r by simp] at hs1
    obtain ⟨m', g1, g2, g3⟩ := g_copyL hv hj hne r (p ++ [x]) n (acc ++ [x]) m1 (by omega) hs1 a2 (by rw [List.length_append, List.length_singleton]; omega)
    refine ⟨m', ?_, by rw [show acc ++ x :: r = (acc ++ [x]) ++ r by simp]; exact g2, a3.trans g3⟩
    show B_X0_copy_12 b (L_X0_copy_12 b n) (v : Int) (j : Int) (p.length : Int) m = _
    unfold B_X0_copy_12
    rw [g_size hs hj, hp_b, List.length_append, List.length_cons, hp_lt_t (by omega) (by omega) (by omega), ht, hp_b, a1, hp_b, hp_set]
    rw [List.length_append, List.length_singleton] at g1
    exact g1
theorem g_copy {b v j : Nat} {l : List Nat} {m : hMem} (hv : v < 30) (hj : j < 30) (hne : j ≠ v) (hs : Bg b m j l) (d : Nat) (hd : d ≤ 1) : ∃ m', f_X0_copy b (v : Int) (j : Int) (d : Int) m = some (0, m') ∧ Bg b m' v (l.drop d) ∧ Fg b v m m' := by
  obtain ⟨m1, a1, a2, a3⟩ := g_zero (b := b) (m := m) hv
  have hs1 := hs.fg a3 hne
  have hl := hs.2.1
  by_cases c : d ≤ l.length
  · rw [show l = l.take d ++ l.drop d from (List.take_append_drop d l).symm] at hs1
    obtain ⟨m', g1, g2, g3⟩ := g_copyL hv hj hne (l.drop d) (l.take d) hv_FU [] m1 (fu_lt (by rw [List.length_drop]; omega)) hs1 a2 (by rw [List.length_drop, List.length_nil]; omega)
    refine ⟨m', ?_, g2, a3.trans g3⟩
    unfold f_X0_copy
    rw [a1, hp_b]
    rw [List.length_take, Nat.min_eq_left c] at g1
    exact g1
  · have l0 : l = [] := List.length_eq_zero_iff.mp (by omega)
    subst l0
    refine ⟨m1, ?_, by rw [List.drop_nil]; exact a2, a3⟩
    unfold f_X0_copy
    rw [a1, hp_b]
    show B_X0_copy_12 b (L_X0_copy_12 b 999999) (v : Int) (j : Int) (d : Int) m1 = _
    unfold B_X0_copy_12
    rw [g_size hs1 hj, hp_b, List.length_nil, hp_lt_f (by omega) (by decide) (by omega)]
    rfl
theorem g_cw57 {b v j : Nat} (hv : v < 30) (hj : j < 30) (hne : j ≠ v) : ∀ (r p : List Nat) (n : Nat) (acc : List Nat) (m : hMem), r.length < n → Bg b m j (p ++ r) → Bg b m v acc → acc.length + r.length ≤ 24 →
    ∃ m', L_X0_copyWith_57 b n (v : Int) (j : Int) (p.length : Int) m = some (0, m') ∧ Bg b m' v (acc ++ r) ∧ Fg b v m m'
  | _, _, 0, _, _, hn, _, _, _ => by omega
  | [], p, n + 1, acc, m, hn, hs, ha, hl => by
    refine ⟨m, ?_, by rw [List.append_nil]; exact ha, Fg.refl _ _ _⟩
    show B_X0_copyWith_57 b (L_X0_copyWith_57 b n) (v : Int) (j : Int) (p.length : Int) m = _
    unfold B_X0_copyWith_57
    have := hs.2.1
    rw [g_size hs hj, hp_b]
    rw [List.append_nil] at this ⊢
    rw [hp_lt_f (by omega) (by omega) (by omega)]
    rfl
  | x :: r, p, n + 1, acc, m, hn, hs, ha, hl => by
    have hs2 := hs.2.1
    rw [List.length_append, List.length_cons] at hs2
    simp only [List.length_cons] at hn hl
    have hx := hs.2.2.2 x (by simp)
    have ht := g_turn (i := p.length) hs hj (by simp)
    rw [getD_mid] at ht
    obtain ⟨m1, a1, a2, a3⟩ := g_app ha hv (by omega) hx
    have hs1 := hs.fg a3 hne
    rw [show p ++ x :: r = (p ++ [x]) ++ r by simp] at hs1
    obtain ⟨m', g1, g2, g3⟩ := g_cw57 hv hj hne r (p ++ [x]) n (acc ++ [x]) m1 (by omega) hs1 a2 (by rw [List.length_append, List.length_singleton]; omega)
    refine ⟨m', ?_, by rw [show acc ++ x :: r = (acc ++ [x]) ++ r by simp]; exact g2, a3.trans g3⟩
    show B_X0_copyWith_57 b (L_X0_copyWith_57 b n) (v : Int) (j : Int) (p.length : Int) m = _
    unfold B_X0_copyWith_57
    rw [g_size hs hj, hp_b, List.length_append, List.length_cons, hp_lt_t (by omega) (by omega) (by omega), ht, hp_b, a1, hp_b, hp_set]
    rw [List.length_append, List.length_singleton] at g1
    exact g1
theorem g_cwL {b v j t : Nat} (hv : v < 30) (hj : j < 30) (hne : j ≠ v) (ht30 : t < 30000) : ∀ (r p : List Nat) (n : Nat) (acc : List Nat) (m : hMem), r.length < n → Bg b m j (p ++ r) → Bg b m v acc → acc.length + r.length + 1 ≤ 24 →
    ∃ m', L_X0_copyWith_12 b n (v : Int) (j : Int) (t : Int) (p.length : Int) m = some (0, m') ∧ Bg b m' v (acc ++ ins t r) ∧ Fg b v m m'
  | _, _, 0, _, _, hn, _, _, _ => by omega
  | r, p, n + 1, acc, m, hn, hs, ha, hl => by
    have hs2 := hs.2.1
    rw [List.length_append] at hs2
    have J : ∃ m', J_X0_copyWith_51 b (v : Int) (j : Int) (t : Int) (p.length : Int) m = some (0, m') ∧ Bg b m' v (acc ++ t :: r) ∧ Fg b v m m' := by
      obtain ⟨m1, a1, a2, a3⟩ := g_app ha hv (by omega) ht30
      have hs1 := hs.fg a3 hne
      obtain ⟨m', g1, g2, g3⟩ := g_cw57 hv hj hne r p hv_FU (acc ++ [t]) m1 (fu_lt (by omega)) hs1 a2 (by rw [List.length_append, List.length_singleton]; omega)
      refine ⟨m', ?_, by rw [show acc ++ t :: r = (acc ++ [t]) ++ r by simp]; exact g2, a3.trans g3⟩
      unfold J_X0_copyWith_51
      rw [a1, hp_b]
      exact g1
    cases r with
    | nil =>
      obtain ⟨m', g1, g2, g3⟩ := J
      refine ⟨m', ?_, g2, g3⟩
      show B_X0_copyWith_12 b (L_X0_copyWith_12 b n) (v : Int) (j : Int) (t : Int) (p.length : Int) m = _
      unfold B_X0_copyWith_12
      rw [g_size hs hj, hp_b, List.append_nil, hp_lt_f (by omega) (by omega) (by omega)]
      exact g1
    | cons x r =>
      simp only [List.length_cons] at hn hl hs2
      have hx := hs.2.2.2 x (by simp)
      have ht := g_turn (i := p.length) hs hj (by simp)
      rw [getD_mid] at ht
      have start : L_X0_copyWith_12 b (n + 1) (v : Int) (j : Int) (t : Int) (p.length : Int) m = hv_lt (x : Int) (t : Int) (hv_b (f_X0_turnAt b (j : Int) (p.length : Int) m) (fun r5 m6 => hv_b (f_X0_append b (v : Int) r5 m6) (fun r7 m8 => hv_set ((p.length : Int) + 1) (fun y9 => L_X0_copyWith_12 b n (v : Int) (j : Int) (t : Int) y9 m8)))) (J_X0_copyWith_51 b (v : Int) (j : Int) (t : Int) (p.length : Int) m) := by
        show B_X0_copyWith_12 b (L_X0_copyWith_12 b n) (v : Int) (j : Int) (t : Int) (p.length : Int) m = _
        unfold B_X0_copyWith_12
        rw [g_size hs hj, hp_b, List.length_append, List.length_cons, hp_lt_t (by omega) (by omega) (by omega), ht, hp_b, ht]
      rw [start]
      unfold ins
      by_cases c : x < t
      · rw [hp_lt_t (by omega) (by omega) (by omega), if_pos c]
        obtain ⟨m1, a1, a2, a3⟩ := g_app ha hv (by omega) hx
        have hs1 := hs.fg a3 hne
        rw [show p ++ x :: r = (p ++ [x]) ++ r by simp] at hs1
        obtain ⟨m', g1, g2, g3⟩ := g_cwL hv hj hne ht30 r (p ++ [x]) n (acc ++ [x]) m1 (by omega) hs1 a2 (by rw [List.length_append, List.length_singleton]; omega)
        refine ⟨m', ?_, by rw [show acc ++ x :: ins t r = (acc ++ [x]) ++ ins t r by simp]; exact g2, a3.trans g3⟩
        rw [ht, hp_b, a1, hp_b, hp_set]
        rw [List.length_append, List.length_singleton] at g1
        exact g1
      · rw [hp_lt_f (by omega) (by omega) (by omega), if_neg c]
        exact J
theorem g_copyWith {b v j t : Nat} {l : List Nat} {m : hMem} (hv : v < 30) (hj : j < 30) (hne : j ≠ v) (hs : Bg b m j l) (ht : t < 30000) (hl : l.length < 24) : ∃ m', f_X0_copyWith b (v : Int) (j : Int) (t : Int) m = some (0, m') ∧ Bg b m' v (ins t l) ∧ Fg b v m m' := by
  obtain ⟨m1, a1, a2, a3⟩ := g_zero (b := b) (m := m) hv
  have hs1 := hs.fg a3 hne
  obtain ⟨m', g1, g2, g3⟩ := g_cwL (t := t) hv hj hne ht l [] hv_FU [] m1 (fu_lt (by omega)) hs1 a2 (by rw [List.length_nil]; omega)
  refine ⟨m', ?_, g2, a3.trans g3⟩
  unfold f_X0_copyWith
  rw [a1, hp_b]
  exact g1
theorem g_mix87 {b v j : Nat} (hv : v < 30) (hj : j < 30) (hne : j ≠ v) : ∀ (r p : List Nat) (n : Nat) (acc : List Nat) (m : hMem), r.length < n → Bg b m j (p ++ r) → Bg b m v acc → acc.length + r.length ≤ 24 →
    ∃ m', L_X0_mix_87 b n (v : Int) (j : Int) (p.length : Int) m = some (0, m') ∧ Bg b m' v (acc ++ r) ∧ Fg b v m m'
  | _, _, 0, _, _, hn, _, _, _ => by omega
  | [], p, n + 1, acc, m, hn, hs, ha, hl => by
    refine ⟨m, ?_, by rw [List.append_nil]; exact ha, Fg.refl _ _ _⟩
    show B_X0_mix_87 b (L_X0_mix_87 b n) (v : Int) (j : Int) (p.length : Int) m = _
    unfold B_X0_mix_87
    have := hs.2.1
    rw [g_size hs hj, hp_b]
    rw [List.append_nil] at this ⊢
    rw [hp_lt_f (by omega) (by omega) (by omega)]
    rfl
  | x :: r, p, n + 1, acc, m, hn, hs, ha, hl => by
    have hs2 := hs.2.1
    rw [List.length_append, List.length_cons] at hs2
    simp only [List.length_cons] at hn hl
    have hx := hs.2.2.2 x (by simp)
    have ht := g_turn (i := p.length) hs hj (by simp)
    rw [getD_mid] at ht
    obtain ⟨m1, a1, a2, a3⟩ := g_app ha hv (by omega) hx
    have hs1 := hs.fg a3 hne
    rw [show p ++ x :: r = (p ++ [x]) ++ r by simp] at hs1
    obtain ⟨m', g1, g2, g3⟩ := g_mix87 hv hj hne r (p ++ [x]) n (acc ++ [x]) m1 (by omega) hs1 a2 (by rw [List.length_append, List.length_singleton]; omega)
    refine ⟨m', ?_, by rw [show acc ++ x :: r = (acc ++ [x]) ++ r by simp]; exact g2, a3.trans g3⟩
    show B_X0_mix_87 b (L_X0_mix_87 b n) (v : Int) (j : Int) (p.length : Int) m = _
    unfold B_X0_mix_87
    rw [g_size hs hj, hp_b, List.length_append, List.length_cons, hp_lt_t (by omega) (by omega) (by omega), ht, hp_b, a1, hp_b, hp_set]
    rw [List.length_append, List.length_singleton] at g1
    exact g1
/-- the inner round: what is less goes ahead, then the turn -/
theorem g_mix34 {b v j t : Nat} (R15 : Int → Int → Int → Int → Int → hMem → hRs) (s1 i : Int) (hv : v < 30) (hj : j < 30) (hne : j ≠ v) (ht30 : t < 30000) : ∀ (r p : List Nat) (n : Nat) (acc : List Nat) (m : hMem), r.length < n → Bg b m j (p ++ r) → Bg b m v acc → acc.length + r.length + 1 ≤ 24 →
    ∃ m', L_X0_mix_34 b R15 n (v : Int) s1 (j : Int) (p.length : Int) i (t : Int) m = R15 (v : Int) s1 (j : Int) (((p ++ r.takeWhile (fun y => decide (y < t))).length : Nat) : Int) (i + 1) m' ∧ Bg b m' v (acc ++ r.takeWhile (fun y => decide (y < t)) ++ [t]) ∧ Fg b v m m'
  | _, _, 0, _, _, hn, _, _, _ => by omega
  | r, p, n + 1, acc, m, hn, hs, ha, hl => by
    have hs2 := hs.2.1
    rw [List.length_append] at hs2
    have J : ∃ m', J_X0_mix_74 b R15 (v : Int) s1 (j : Int) (p.length : Int) i (t : Int) m = R15 (v : Int) s1 (j : Int) (p.length : Int) (i + 1) m' ∧ Bg b m' v (acc ++ [t]) ∧ Fg b v m m' := by
      obtain ⟨m1, a1, a2, a3⟩ := g_app ha hv (by omega) ht30
      refine ⟨m1, ?_, a2, a3⟩
      unfold J_X0_mix_74
      rw [a1, hp_b, hp_set]
    cases r with
    | nil =>
      obtain ⟨m', g1, g2, g3⟩ := J
      refine ⟨m', ?_, by simpa using g2, g3⟩
      show B_X0_mix_34 b R15 (L_X0_mix_34 b R15 n) (v : Int) s1 (j : Int) (p.length : Int) i (t : Int) m = _
      unfold B_X0_mix_34
      rw [g_size hs hj, hp_b, List.append_nil, hp_lt_f (by omega) (by omega) (by omega), g1]
      rw [List.takeWhile_nil, List.append_nil]
    | cons x r =>
      simp only [List.length_cons] at hn hl hs2
      have hx := hs.2.2.2 x (by simp)
      have ht := g_turn (i := p.length) hs hj (by simp)
      rw [getD_mid] at ht
      have start : L_X0_mix_34 b R15 (n + 1) (v : Int) s1 (j : Int) (p.length : Int) i (t : Int) m = hv_lt (x : Int) (t : Int) (hv_b (f_X0_turnAt b (j : Int) (p.length : Int) m) (fun r5 m6 => hv_b (f_X0_append b (v : Int) r5 m6) (fun r7 m8 => hv_set ((p.length : Int) + 1) (fun y9 => L_X0_mix_34 b R15 n (v : Int) s1 (j : Int) y9 i (t : Int) m8)))) (J_X0_mix_74 b R15 (v : Int) s1 (j : Int) (p.length : Int) i (t : Int) m) := by
        show B_X0_mix_34 b R15 (L_X0_mix_34 b R15 n) (v : Int) s1 (j : Int) (p.length : Int) i (t : Int) m = _
        unfold B_X0_mix_34
        rw [g_size hs hj, hp_b, List.length_append, List.length_cons, hp_lt_t (by omega) (by omega) (by omega), ht, hp_b, ht]
      rw [start]
      by_cases c : x < t
      · rw [hp_lt_t (by omega) (by omega) (by omega), List.takeWhile_cons_of_pos (by simp [c])]
        obtain ⟨m1, a1, a2, a3⟩ := g_app ha hv (by omega) hx
        have hs1 := hs.fg a3 hne
        rw [show p ++ x :: r = (p ++ [x]) ++ r by simp] at hs1
        obtain ⟨m', g1, g2, g3⟩ := g_mix34 R15 s1 i hv hj hne ht30 r (p ++ [x]) n (acc ++ [x]) m1 (by omega) hs1 a2 (by rw [List.length_append, List.length_singleton]; omega)
        refine ⟨m', ?_, by rw [show acc ++ x :: r.takeWhile (fun y => decide (y < t)) ++ [t] = (acc ++ [x]) ++ r.takeWhile (fun y => decide (y < t)) ++ [t] by simp]; exact g2, a3.trans g3⟩
        rw [ht, hp_b, a1, hp_b, hp_set]
        rw [show p ++ x :: r.takeWhile (fun y => decide (y < t)) = (p ++ [x]) ++ r.takeWhile (fun y => decide (y < t)) by simp, ← g1]
        rw [List.length_append, List.length_singleton]
        rfl
      · rw [hp_lt_f (by omega) (by omega) (by omega), List.takeWhile_cons_of_neg (by simp [c]), List.append_nil, List.append_nil]
        exact J
theorem g_mixL {b v i0 j : Nat} (hv : v < 30) (hi0 : i0 < 30) (hj : j < 30) (hne : j ≠ v) (hni : i0 ≠ v) : ∀ (a q : List Nat) (n : Nat) (r p acc : List Nat) (m : hMem), a.length < n → Bg b m i0 (q ++ a) → Bg b m j (p ++ r) → Bg b m v acc → acc.length + a.length + r.length ≤ 24 →
    ∃ m', L_X0_mix_15 b n (v : Int) (i0 : Int) (j : Int) (p.length : Int) (q.length : Int) m = some (0, m') ∧ Bg b m' v (acc ++ mix a r) ∧ Fg b v m m'
  | _, _, 0, _, _, _, _, hn, _, _, _, _ => by omega
  | [], q, n + 1, r, p, acc, m, hn, hq, hs, ha, hl => by
    have hq2 := hq.2.1
    rw [List.append_nil] at hq2
    rw [List.length_nil] at hl
    obtain ⟨m', g1, g2, g3⟩ := g_mix87 hv hj hne r p hv_FU acc m (fu_lt (by have := hs.2.1; rw [List.length_append] at this; omega)) hs ha (by omega)
    refine ⟨m', ?_, g2, g3⟩
    show B_X0_mix_15 b (L_X0_mix_15 b n) (v : Int) (i0 : Int) (j : Int) (p.length : Int) (q.length : Int) m = _
    unfold B_X0_mix_15
    rw [g_size hq hi0, hp_b, List.append_nil, hp_lt_f (by omega) (by omega) (by omega)]
    exact g1
  | x :: a, q, n + 1, r, p, acc, m, hn, hq, hs, ha, hl => by
    have hq2 := hq.2.1
    rw [List.length_append, List.length_cons] at hq2
    simp only [List.length_cons] at hn hl
    have hx := hq.2.2.2 x (by simp)
    have ht := g_turn (i := q.length) hq hi0 (by simp)
    rw [getD_mid] at ht
    obtain ⟨m1, a1, a2, a3⟩ := g_mix34 (t := x) (L_X0_mix_15 b n) (i0 : Int) (q.length : Int) hv hj hne hx r p hv_FU acc m (fu_lt (by have := hs.2.1; rw [List.length_append] at this; omega)) hs ha (by omega)
    have hq1 := hq.fg a3 hni
    have hs1 := hs.fg a3 hne
    have er : r = r.takeWhile (fun y => decide (y < x)) ++ r.dropWhile (fun y => decide (y < x)) := List.takeWhile_append_dropWhile.symm
    have erl := congrArg List.length er
    rw [List.length_append] at erl
    rw [show q ++ x :: a = (q ++ [x]) ++ a by simp] at hq1
    rw [show p ++ r = (p ++ r.takeWhile (fun y => decide (y < x))) ++ r.dropWhile (fun y => decide (y < x)) by rw [List.append_assoc, ← er]] at hs1
    obtain ⟨m', g1, g2, g3⟩ := g_mixL hv hi0 hj hne hni a (q ++ [x]) n (r.dropWhile (fun y => decide (y < x))) (p ++ r.takeWhile (fun y => decide (y < x))) (acc ++ r.takeWhile (fun y => decide (y < x)) ++ [x]) m1 (by omega) hq1 hs1 a2 (by simp only [List.length_append, List.length_singleton]; omega)
    refine ⟨m', ?_, ?_, a3.trans g3⟩
    · show B_X0_mix_15 b (L_X0_mix_15 b n) (v : Int) (i0 : Int) (j : Int) (p.length : Int) (q.length : Int) m = _
      unfold B_X0_mix_15
      rw [g_size hq hi0, hp_b, List.length_append, List.length_cons, hp_lt_t (by omega) (by omega) (by omega), ht, hp_b, a1, ← g1]
      rw [List.length_append (as := q), List.length_singleton]
      rfl
    · unfold mix
      rw [show acc ++ (r.takeWhile (fun y => decide (y < x)) ++ x :: mix a (r.dropWhile (fun y => decide (y < x)))) = (acc ++ r.takeWhile (fun y => decide (y < x)) ++ [x]) ++ mix a (r.dropWhile (fun y => decide (y < x))) by simp]
      exact g2
theorem g_mix {b v i0 j : Nat} {a c : List Nat} {m : hMem} (hv : v < 30) (hi0 : i0 < 30) (hj : j < 30) (hne : j ≠ v) (hni : i0 ≠ v) (ha : Bg b m i0 a) (hc : Bg b m j c) (hl : a.length + c.length ≤ 24) : ∃ m', f_X0_mix b (v : Int) (i0 : Int) (j : Int) m = some (0, m') ∧ Bg b m' v (mix a c) ∧ Fg b v m m' := by
  obtain ⟨m1, a1, a2, a3⟩ := g_zero (b := b) (m := m) hv
  obtain ⟨m', g1, g2, g3⟩ := g_mixL hv hi0 hj hne hni a [] hv_FU c [] [] m1 (fu_lt (by omega)) (ha.fg a3 hni) (hc.fg a3 hne) a2 (by rw [List.length_nil]; omega)
  refine ⟨m', ?_, g2, a3.trans g3⟩
  unfold f_X0_mix
  rw [a1, hp_b]
  exact g1
