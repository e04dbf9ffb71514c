/-! the class's reader: words, numbers, signs -/
theorem c_isWordL {bs p rest : List Nat} {w : Nat} {m : hMem} (hw : w < 8) (h : TpC bs m) (h2 : m 4 2 = (p.length : Int)) : ∀ (v v' u u' : List Nat) (n : Nat), v.length = v'.length → u.length = u'.length → v.length < n → bs = p ++ (u ++ (v ++ rest)) → wd w = u' ++ v' → L_X8_isWord_28 w n (u.length : Int) m = some (if v = v' then 1 else 0, m)
  | _, _, _, _, 0, _, _, hn, _, _ => by omega
  | [], v', u, u', n + 1, hv, hu, hn, e, ew => by
    have v0 : v' = [] := List.length_eq_zero_iff.mp (by simpa using hv.symm)
    subst v0
    have h5 := (wd_len w hw).1
    have el := congrArg List.length ew
    rw [List.append_nil] at el
    show B_X8_isWord_28 w (L_X8_isWord_28 w n) (u.length : Int) m = _
    unfold B_X8_isWord_28
    rw [w_length hw, hp_b, hp_lt_f (by omega) (by omega) (by omega), if_pos rfl, hp_zr1]
  | x :: v, [], u, u', n + 1, hv, hu, hn, e, ew => by simp at hv
  | x :: v, y :: v', u, u', n + 1, hv, hu, hn, e, ew => by
    simp only [List.length_cons] at hv hn
    have h5 := (wd_len w hw).1
    have el := congrArg List.length ew
    rw [List.length_append, List.length_cons] at el
    have e' : bs = (p ++ u) ++ x :: (v ++ rest) := by rw [e]; simp
    obtain ⟨b1, b2, b3⟩ := t_byte h e'
    have hb6 := h.2.1
    rw [List.length_append] at b1 b3
    have cw := w_charAt (i := u.length) hw (by omega) m
    have ey : (wd w).getD u.length 0 = y := by rw [ew, hu, getD_mid]
    rw [ey] at cw
    have hy : y ≤ 122 := by
      have := (wd_ch w hw u.length (by omega) (by omega)).2.2
      rw [ey] at this
      exact this
    show B_X8_isWord_28 w (L_X8_isWord_28 w n) (u.length : Int) m = _
    unfold B_X8_isWord_28
    rw [w_length hw, hp_b, hp_lt_t (by omega) (by omega) (by omega), h2, show (p.length : Int) + (u.length : Int) = ((p.length + u.length : Nat) : Int) by omega, b1, hp_b, cw, hp_b]
    by_cases c : x = y
    · rw [hp_eq_t (by omega) (by omega) (by omega), hp_set]
      have g := c_isWordL (p := p) (rest := rest) hw h h2 v v' (u ++ [x]) (u' ++ [y]) n (by omega) (by simp [hu]) (by omega) (by rw [e]; simp) (by rw [ew]; simp)
      rw [List.length_append, List.length_singleton] at g
      rw [show (if x :: v = y :: v' then (1 : Int) else 0) = if v = v' then 1 else 0 by simp [c]]
      exact g
    · rw [hp_eq_f (by omega) (by omega) (by omega), if_neg (by simp [c]), hp_zr0]
theorem kd_le (q : List Nat) : kd q ≤ 4 := by
  unfold kd
  split
  · omega
  · split
    · omega
    · split
      · omega
      · split <;> omega
theorem kd1 {q : List Nat} (h : kd q = 1) : ∃ x l, q = x :: l ∧ bLe x = true := by
  cases q with
  | nil => simp [kd] at h
  | cons x l =>
    refine ⟨x, l, rfl, ?_⟩
    by_cases c : bLe x = true
    · exact c
    · have h : (if bLe x = true then 1 else if bDi x = true then 2 else if x = 59 then 3 else 4) = 1 := h
      rw [if_neg c] at h
      split at h
      · omega
      · split at h <;> omega
theorem rs1 {q : List Nat} (h : kd q = 1) : q = q.takeWhile bLe ++ rs q := by
  obtain ⟨x, l, e, c⟩ := kd1 h
  subst e
  have : rs (x :: l) = l.dropWhile bLe := by simp [rs, c]
  rw [this, List.takeWhile_cons_of_pos c, List.cons_append, List.takeWhile_append_dropWhile]
theorem c_isWord {bs q : List Nat} {m : hMem} (h : TC bs q m) {w : Nat} (hw : w < 8) : f_X8_isWord w m = some (if isw w q then 1 else 0, m) := by
  obtain ⟨h1, ⟨p, e⟩, h2, h3, h4, h5⟩ := h
  have h6 := h1.2.1
  have kl := kd_le q
  have el := congrArg List.length e
  rw [List.length_append] at el
  have wl := (wd_len w hw).1
  unfold f_X8_isWord
  rw [h2]
  by_cases c : kd q = 1
  · have er := rs1 c
    have erl := congrArg List.length er
    rw [List.length_append] at erl
    rw [hp_eq_t (by omega) (by decide) (by omega), w_length hw, hp_b, h3, h4]
    by_cases c2 : (q.takeWhile bLe).length = (wd w).length
    · rw [hp_eq_t (by omega) (by omega) (by omega)]
      have g := c_isWordL (p := p) (rest := rs q) hw h1 (by rw [h3]; omega) (q.takeWhile bLe) (wd w) [] [] hv_FU c2 rfl (fu_lt (by omega)) (by rw [List.nil_append, ← er]; exact e) rfl
      refine Eq.trans g ?_
      unfold isw
      by_cases c3 : q.takeWhile bLe = wd w
      · rw [if_pos c3, if_pos (by simp [c, c3])]
      · rw [if_neg c3, if_neg (by simp [c, c3])]
    · rw [hp_eq_f (by omega) (by omega) (by omega)]
      unfold isw
      rw [if_neg (by simp [c]; intro z; exact c2 (congrArg List.length z)), hp_zr0]
  · rw [hp_eq_f (by omega) (by decide) (by omega)]
    unfold isw
    rw [if_neg (by simp [c]), hp_zr0]
/-- the fault that is told: the first -/
def fb (f : Int × Int) (ok : Bool) (k p : Int) : Int × Int := if f.1 = 0 ∧ ok = false then (k, p) else f
def Rd (bs q : List Nat) (f : Int × Int) (m : hMem) : Prop := TC bs q m ∧ m 3 11 = f.1 ∧ m 3 12 = f.2 ∧ 0 ≤ f.1 ∧ f.1 ≤ 3
/-- reader's frame: its fault, its spot, the tokens -/
def Fk (m m' : hMem) : Prop := (∀ k, k ≠ 3 → k ≠ 4 → m' k = m k) ∧ ∀ j, j ≠ 11 → j ≠ 12 → j ≠ 13 → m' 3 j = m 3 j
theorem Fk.refl (m : hMem) : Fk m m := ⟨fun _ _ _ => rfl, fun _ _ _ _ => rfl⟩
theorem Fk.trans {m1 m2 m3 : hMem} (h1 : Fk m1 m2) (h2 : Fk m2 m3) : Fk m1 m3 := ⟨fun k a b => (h2.1 k a b).trans (h1.1 k a b), fun j a b c => (h2.2 j a b c).trans (h1.2 j a b c)⟩
theorem Fk.of4 {m m' : hMem} (h : Fr 4 5 m m') : Fk m m' := ⟨fun k a b => h k (by omega), fun j _ _ _ => by rw [h 3 (by omega)]⟩
theorem TC.eq {bs q : List Nat} {m m' : hMem} (h : TC bs q m) (e1 : m' 1 = m 1) (e2 : m' 2 = m 2) (e4 : m' 4 = m 4) : TC bs q m' := by
  obtain ⟨h1, h2, h3, h4, h5, h6⟩ := h
  exact ⟨h1.eq e1 e2, h2, by rw [e4]; exact h3, by rw [e4]; exact h4, by rw [e4]; exact h5, fun c => by rw [e4]; exact h6 c⟩
theorem c_blame {bs q : List Nat} {f : Int × Int} {m : hMem} (h : Rd bs q f m) {k p : Int} (hk : 0 ≤ k ∧ k ≤ 3) : ∃ m', f_X4_blame k p m = some (0, m') ∧ Rd bs q (fb f false k p) m' ∧ Fk m m' ∧ m' 4 = m 4 ∧ m' 3 13 = m 3 13 := by
  obtain ⟨h1, h2, h3, h4, h5⟩ := h
  unfold f_X4_blame fb
  rw [h2]
  by_cases c : f.1 = 0
  · rw [hp_eq_t (by omega) (by decide) c, hp_put, hp_put, if_pos ⟨c, rfl⟩]
    refine ⟨_, rfl, ⟨h1.eq ?_ ?_ ?_, ?_, ?_, hk⟩, ⟨fun k a b => ?_, fun j a b c => ?_⟩, ?_, ?_⟩
    · rw [hp_up_kk _ _ _ (by omega), hp_up_kk _ _ _ (by omega)]
    · rw [hp_up_kk _ _ _ (by omega), hp_up_kk _ _ _ (by omega)]
    · rw [hp_up_kk _ _ _ (by omega), hp_up_kk _ _ _ (by omega)]
    · rw [hp_up_j _ _ _ (by omega), hp_up_same]
    · rw [hp_up_same]
    · rw [hp_up_kk _ _ _ (by omega), hp_up_kk _ _ _ (by omega)]
    · rw [hp_up_j _ _ _ (by omega), hp_up_j _ _ _ (by omega)]
    · rw [hp_up_kk _ _ _ (by omega), hp_up_kk _ _ _ (by omega)]
    · rw [hp_up_j _ _ _ (by omega), hp_up_j _ _ _ (by omega)]
  · rw [hp_eq_f (by omega) (by decide) (by omega), if_neg (by simp [c])]
    exact ⟨m, rfl, ⟨h1, h2, h3, h4, h5⟩, Fk.refl m, rfl, rfl⟩
theorem fb_t (f : Int × Int) (k p : Int) : fb f true k p = f := by unfold fb; rw [if_neg (by simp)]
theorem c_rmove {bs q : List Nat} {f : Int × Int} {m : hMem} (h : Rd bs q f m) : ∃ m', f_X8_move m = some (0, m') ∧ Rd bs (nx q) f m' ∧ Fk m m' ∧ m' 3 = m 3 := by
  obtain ⟨m', g1, g2, g3⟩ := c_move h.1
  have e3 := g3 3 (by omega)
  exact ⟨m', g1, ⟨g2, by rw [e3]; exact h.2.1, by rw [e3]; exact h.2.2.1, h.2.2.2⟩, Fk.of4 g3, e3⟩
theorem t_start {bs q : List Nat} {m : hMem} (h : TC bs q m) : f_X8_start m = some (((bs.length - q.length : Nat) : Int), m) := by unfold f_X8_start; rw [h.2.2.2.1]; rfl
theorem t_kind {bs q : List Nat} {m : hMem} (h : TC bs q m) : f_X8_kind m = some ((kd q : Int), m) := by unfold f_X8_kind; rw [h.2.2.1]; rfl
/-- the place of a token -/
def pl (bs q : List Nat) : Int := ((bs.length - q.length : Nat) : Int)
theorem c_passWord {bs q : List Nat} {f : Int × Int} {m : hMem} (h : Rd bs q f m) {w : Nat} (hw : w < 8) : ∃ m', f_X4_passWord w m = some (0, m') ∧ Rd bs (nx q) (fb f (isw w q) 1 (pl bs q)) m' ∧ Fk m m' := by
  unfold f_X4_passWord J_X4_passWord_23
  rw [c_isWord h.1 hw, hp_b]
  cases c : isw w q with
  | false =>
    rw [if_neg (by simp), hp_eq_t (by decide) (by decide) rfl, t_start h.1, hp_b]
    obtain ⟨m1, a1, a2, a3, -⟩ := c_blame (k := 1) (p := pl bs q) h (by omega)
    obtain ⟨m2, b1, b2, b3, -⟩ := c_rmove a2
    have A : f_X4_blame 1 ((bs.length - q.length : Nat) : Int) m = some (0, m1) := a1
    rw [A, hp_b, b1, hp_b]
    exact ⟨m2, rfl, b2, a3.trans b3⟩
  | true =>
    rw [if_pos rfl, hp_eq_f (by decide) (by decide) (by decide)]
    obtain ⟨m2, b1, b2, b3, -⟩ := c_rmove h
    rw [b1, hp_b]
    exact ⟨m2, rfl, by rw [fb_t]; exact b2, b3⟩
theorem c_passSign {bs q : List Nat} {f : Int × Int} {m : hMem} (h : Rd bs q f m) : ∃ m', f_X4_passSign m = some (0, m') ∧ Rd bs (nx q) (fb f (decide (kd q = 3)) 1 (pl bs q)) m' ∧ Fk m m' := by
  have kl := kd_le q
  unfold f_X4_passSign J_X4_passSign_23
  rw [t_kind h.1, hp_b]
  by_cases c : kd q = 3
  · rw [hp_eq_t (by omega) (by decide) (by omega)]
    obtain ⟨m2, b1, b2, b3, -⟩ := c_rmove h
    rw [b1, hp_b]
    exact ⟨m2, rfl, by rw [show decide (kd q = 3) = true by simp [c], fb_t]; exact b2, b3⟩
  · rw [hp_eq_f (by omega) (by decide) (by omega), t_start h.1, hp_b]
    obtain ⟨m1, a1, a2, a3, -⟩ := c_blame (k := 1) (p := pl bs q) h (by omega)
    obtain ⟨m2, b1, b2, b3, -⟩ := c_rmove a2
    have A : f_X4_blame 1 ((bs.length - q.length : Nat) : Int) m = some (0, m1) := a1
    rw [A, hp_b, b1, hp_b]
    exact ⟨m2, rfl, by rw [show decide (kd q = 3) = false by simp [c]]; exact b2, a3.trans b3⟩
/-- a number that the class reads -/
def nv (q : List Nat) : Int := if kd q = 2 then ((min (vl q) 10000 : Nat) : Int) else -1
def nq (q : List Nat) : List Nat := if kd q = 2 then nx q else q
def nf (f : Int × Int) (bs q : List Nat) (lo hi : Int) : Int × Int := if kd q = 2 then fb f (decide (lo ≤ nv q ∧ nv q ≤ hi)) 2 (pl bs q) else fb f false 1 (pl bs q)
theorem nv_r (q : List Nat) : -1 ≤ nv q ∧ nv q ≤ 10000 := by unfold nv; split <;> omega
theorem c_passNumber {bs q : List Nat} {f : Int × Int} {m : hMem} (h : Rd bs q f m) {lo hi : Int} (hlo : hv_R32 lo) (hhi : hv_R32 hi) : ∃ m', f_X4_passNumber lo hi m = some (nv q, m') ∧ Rd bs (nq q) (nf f bs q lo hi) m' ∧ Fk m m' ∧ m' 3 13 = pl bs q := by
  have kl := kd_le q
  have nr := nv_r q
  obtain ⟨m1, em1⟩ : ∃ m1 : hMem, m1 = hv_up m 3 13 (pl bs q) := ⟨_, rfl⟩
  have F1 : Fk m m1 := by rw [em1]; exact ⟨fun k a b => hp_up_kk _ _ _ a, fun j a b c => hp_up_j _ _ _ c⟩
  have h1 : Rd bs q f m1 := by
    obtain ⟨q1, q2, q3, q4⟩ := h
    rw [em1]
    exact ⟨q1.eq (hp_up_kk _ _ _ (by omega)) (hp_up_kk _ _ _ (by omega)) (hp_up_kk _ _ _ (by omega)), by rw [hp_up_j _ _ _ (by omega)]; exact q2, by rw [hp_up_j _ _ _ (by omega)]; exact q3, q4⟩
  have s13 : m1 3 13 = pl bs q := by rw [em1, hp_up_same]
  unfold f_X4_passNumber J_X4_passNumber_51 J_X4_passNumber_60
  rw [t_start h.1, hp_b, hp_put]
  rw [show hv_up m 3 13 ((bs.length - q.length : Nat) : Int) = m1 from em1.symm, t_kind h1.1, hp_b]
  by_cases c : kd q = 2
  · have ev : m1 4 4 = nv q := by unfold nv; rw [if_pos c]; exact h1.1.2.2.2.2.2 c
    have V : f_X8_value m1 = some (nv q, m1) := by unfold f_X8_value; rw [ev]; rfl
    have en : nq q = nx q := by unfold nq; rw [if_pos c]
    have ef : nf f bs q lo hi = fb f (decide (lo ≤ nv q ∧ nv q ≤ hi)) 2 (pl bs q) := by unfold nf; rw [if_pos c]
    rw [hp_eq_t (by omega) (by decide) (by omega), V, hp_b, en, ef]
    have bad : ¬ (lo ≤ nv q ∧ nv q ≤ hi) → ∃ m', hv_b (f_X4_blame 2 (m1 3 13) m1) (fun r1 m2 => hv_b (f_X8_move m2) (fun r1 m2 => hv_ret (nv q) m2)) = some (nv q, m') ∧ Rd bs (nx q) (fb f (decide (lo ≤ nv q ∧ nv q ≤ hi)) 2 (pl bs q)) m' ∧ Fk m m' ∧ m' 3 13 = pl bs q := by
      intro hb
      rw [s13]
      obtain ⟨m2, a1, a2, a3, -, a5⟩ := c_blame (k := 2) (p := pl bs q) h1 (by omega)
      obtain ⟨m3, b1, b2, b3, b4⟩ := c_rmove a2
      rw [a1, hp_b, b1, hp_b]
      exact ⟨m3, rfl, by rw [show decide (lo ≤ nv q ∧ nv q ≤ hi) = false by simpa using hb]; exact b2, (F1.trans a3).trans b3, by rw [b4, a5]; exact s13⟩
    by_cases c1 : nv q < lo
    · rw [hp_lt_t (by omega) hlo c1]
      exact bad (by omega)
    · rw [hp_lt_f (by omega) hlo (by omega)]
      by_cases c2 : hi < nv q
      · rw [hp_lt_t hhi (by omega) c2]
        exact bad (by omega)
      · rw [hp_lt_f hhi (by omega) (by omega)]
        obtain ⟨m3, b1, b2, b3, b4⟩ := c_rmove h1
        rw [b1, hp_b]
        exact ⟨m3, rfl, by rw [show decide (lo ≤ nv q ∧ nv q ≤ hi) = true by simp; omega, fb_t]; exact b2, F1.trans b3, by rw [b4]; exact s13⟩
  · have en : nq q = q := by unfold nq; rw [if_neg c]
    have ef : nf f bs q lo hi = fb f false 1 (pl bs q) := by unfold nf; rw [if_neg c]
    have evn : nv q = -1 := by unfold nv; rw [if_neg c]
    rw [hp_eq_f (by omega) (by decide) (by omega), s13, en, ef, evn]
    obtain ⟨m2, a1, a2, a3, -, a5⟩ := c_blame (k := 1) (p := pl bs q) h1 (by omega)
    rw [a1, hp_b]
    exact ⟨m2, rfl, a2, F1.trans a3, by rw [a5]; exact s13⟩
