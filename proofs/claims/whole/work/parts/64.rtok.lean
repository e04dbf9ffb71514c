/-! the reference's tokens -/
theorem r_isAt0 {bs : List Nat} {m : hMem} {lo hi : Int} (h : TpR bs m) (h6 : bs.length ≤ 600) (e : m 65 6 = (bs.length : Int)) : f_X11_isAt lo hi m = some (0, m) := by
  unfold f_X11_isAt
  rw [e, h.1, hp_lt_f (by omega) (by omega) (by omega), hp_zr0]
theorem r_isAt {bs p q : List Nat} {x : Nat} {m : hMem} {lo hi : Int} (h : TpR bs m) (h6 : bs.length ≤ 600) (e : bs = p ++ x :: q) (hx : x < 256) (e6 : m 65 6 = (p.length : Int)) (hlo : hv_R32 lo) (hhi : hv_R32 hi) : f_X11_isAt lo hi m = some (if lo ≤ (x : Int) ∧ (x : Int) ≤ hi then 1 else 0, m) := by
  have hl := congrArg List.length e
  rw [List.length_append, List.length_cons] at hl
  have ex : m 68 p.length = (x : Int) := by rw [h.2 p.length (by omega), e, getD_mid]
  unfold f_X11_isAt
  rw [e6, h.1, hp_lt_t (by omega) (by omega) (by omega), hp_ald (by omega) (by omega), Int.toNat_natCast, ex, hp_rg (by omega), hp_rg hlo, hp_rg hhi, fe_in (by omega) hlo hhi, hp_b]
  by_cases c : lo ≤ (x : Int) ∧ (x : Int) ≤ hi
  · rw [if_pos c, hp_eq_f (by decide) (by decide) (by decide), hp_zr1]
  · rw [if_neg c, hp_eq_t (by decide) (by decide) rfl, hp_zr0]
theorem le_i (x : Nat) : (97 ≤ (x : Int) ∧ (x : Int) ≤ 122) ↔ bLe x = true := by unfold bLe; simp; omega
theorem di_i (x : Nat) : (48 ≤ (x : Int) ∧ (x : Int) ≤ 57) ↔ bDi x = true := by unfold bDi; simp; omega
/-- only the reference's own numbers change -/
def F65 (J : Nat → Prop) (m m' : hMem) : Prop := (∀ k, k ≠ 65 → m' k = m k) ∧ ∀ j, ¬ J j → m' 65 j = m 65 j
theorem F65.refl (J : Nat → Prop) (m : hMem) : F65 J m m := ⟨fun _ _ => rfl, fun _ _ => rfl⟩
theorem F65.trans {J : Nat → Prop} {m1 m2 m3 : hMem} (h1 : F65 J m1 m2) (h2 : F65 J m2 m3) : F65 J m1 m3 := ⟨fun k hk => (h2.1 k hk).trans (h1.1 k hk), fun j hj => (h2.2 j hj).trans (h1.2 j hj)⟩
theorem F65.up {J : Nat → Prop} {m m1 : hMem} {j : Nat} {v : Int} (h : F65 J m m1) (hj : J j) : F65 J m (hv_up m1 65 j v) := ⟨fun k hk => by rw [hp_up_kk _ _ _ hk]; exact h.1 k hk, fun i hi => by
  have hne : i ≠ j := fun e => hi (by rw [e]; exact hj)
  rw [hp_up_j _ _ _ hne]; exact h.2 i hi⟩
theorem F65.mono {J K : Nat → Prop} {m m' : hMem} (h : F65 J m m') (hJ : ∀ j, J j → K j) : F65 K m m' := ⟨h.1, fun j hj => h.2 j (fun c => hj (hJ j c))⟩
theorem TpR.f65 {bs : List Nat} {J : Nat → Prop} {m m' : hMem} (h : TpR bs m) (hF : F65 J m m') (hJ : ¬ J 3) : TpR bs m' := ⟨by rw [hF.2 3 hJ]; exact h.1, fun i hi => by rw [hF.1 68 (by omega)]; exact h.2 i hi⟩
theorem r_letters {bs : List Nat} (h6 : bs.length ≤ 600) (hb : ∀ x ∈ bs, x < 256) : ∀ (l p : List Nat) (n : Nat) (m : hMem), l.length < n → TpR bs m → bs = p ++ l → m 65 6 = (p.length : Int) →
    ∃ m', L_X11_next_83 n m = some (0, m') ∧ m' 65 6 = ((bs.length - (l.dropWhile bLe).length : Nat) : Int) ∧ F65 (fun j => j = 6) m m'
  | _, _, 0, _, hn, _, _, _ => by omega
  | [], p, n + 1, m, hn, h, e, e6 => by
    rw [List.append_nil] at e
    refine ⟨m, ?_, by rw [e6, e]; simp, F65.refl _ _⟩
    show B_X11_next_83 (L_X11_next_83 n) m = _
    unfold B_X11_next_83
    rw [r_isAt0 h h6 (by rw [e6, e]), hp_b, hp_eq_t (by decide) (by decide) rfl]
    rfl
  | x :: l, p, n + 1, m, hn, h, e, e6 => by
    have hx := hb x (by rw [e]; simp)
    have hl := congrArg List.length e
    rw [List.length_append, List.length_cons] at hl
    simp only [List.length_cons] at hn
    show ∃ m', B_X11_next_83 (L_X11_next_83 n) m = _ ∧ _
    unfold B_X11_next_83
    rw [r_isAt h h6 e hx e6 (by decide) (by decide), hp_b]
    by_cases c : bLe x = true
    · rw [if_pos ((le_i x).mpr c), hp_eq_f (by decide) (by decide) (by decide), hp_put, e6, List.dropWhile_cons_of_pos c]
      have F1 : F65 (fun j => j = 6) m (hv_up m 65 6 ((p.length : Int) + 1)) := (F65.refl _ _).up rfl
      obtain ⟨m', g1, g2, g3⟩ := r_letters h6 hb l (p ++ [x]) n (hv_up m 65 6 ((p.length : Int) + 1)) (by omega) (h.f65 F1 (by omega)) (by rw [e]; simp) (by rw [hp_up_same]; simp)
      exact ⟨m', g1, g2, F1.trans g3⟩
    · rw [if_neg (fun z => c ((le_i x).mp z)), hp_eq_t (by decide) (by decide) rfl, List.dropWhile_cons_of_neg c]
      exact ⟨m, rfl, by rw [e6, List.length_cons]; omega, F65.refl _ _⟩
theorem r_digits {bs : List Nat} (h6 : bs.length ≤ 600) (hb : ∀ x ∈ bs, x < 256) : ∀ (l p : List Nat) (n v : Nat) (m : hMem), l.length < n → TpR bs m → bs = p ++ l → m 65 6 = (p.length : Int) → m 65 9 = ((min v 99999 : Nat) : Int) →
    ∃ m', L_X11_next_123 n m = some (0, m') ∧ m' 65 6 = ((bs.length - (l.dropWhile bDi).length : Nat) : Int) ∧ m' 65 9 = ((min (dv v (l.takeWhile bDi)) 99999 : Nat) : Int) ∧ F65 (fun j => j = 6 ∨ j = 9) m m'
  | _, _, 0, _, _, hn, _, _, _, _ => by omega
  | [], p, n + 1, v, m, hn, h, e, e6, e9 => by
    rw [List.append_nil] at e
    refine ⟨m, ?_, by rw [e6, e]; simp, by rw [e9]; rfl, F65.refl _ _⟩
    show B_X11_next_123 (L_X11_next_123 n) m = _
    unfold B_X11_next_123
    rw [r_isAt0 h h6 (by rw [e6, e]), hp_b, hp_eq_t (by decide) (by decide) rfl]
    rfl
  | x :: l, p, n + 1, v, m, hn, h, e, e6, e9 => by
    have hx := hb x (by rw [e]; simp)
    have hl := congrArg List.length e
    rw [List.length_append, List.length_cons] at hl
    have ex : m 68 p.length = (x : Int) := by rw [h.2 p.length (by omega), e, getD_mid]
    simp only [List.length_cons] at hn
    show ∃ m', B_X11_next_123 (L_X11_next_123 n) m = _ ∧ _
    unfold B_X11_next_123
    rw [r_isAt h h6 e hx e6 (by decide) (by decide), hp_b]
    by_cases c : bDi x = true
    · have c' : 48 ≤ x ∧ x ≤ 57 := by simpa [bDi] using c
      rw [if_pos ((di_i x).mpr c), hp_eq_f (by decide) (by decide) (by decide), e6, hp_ald (by omega) (by omega), Int.toNat_natCast, ex, e9, fe_min (by decide) (by omega), hp_b, hp_put, hp_put, hp_up_j _ _ _ (by omega), e6, List.dropWhile_cons_of_pos c, List.takeWhile_cons_of_pos c]
      obtain ⟨m1, em1⟩ : ∃ m1 : hMem, m1 = hv_up (hv_up m 65 9 (min 99999 (10 * ((min v 99999 : Nat) : Int) + (x : Int) - 48))) 65 6 ((p.length : Int) + 1) := ⟨_, rfl⟩
      have F1 : F65 (fun j => j = 6 ∨ j = 9) m m1 := by rw [em1]; exact ((F65.refl _ _).up (Or.inr rfl)).up (Or.inl rfl)
      rw [← em1]
      obtain ⟨m', g1, g2, g3, g4⟩ := r_digits h6 hb l (p ++ [x]) n (v * 10 + (x - 48)) m1 (by omega) (h.f65 F1 (by omega)) (by rw [e]; simp) (by rw [em1, hp_up_same]; simp) (by rw [em1, hp_up_j _ _ _ (by omega), hp_up_same]; omega)
      exact ⟨m', g1, g2, g3, F1.trans g4⟩
    · rw [if_neg (fun z => c ((di_i x).mp z)), hp_eq_t (by decide) (by decide) rfl, List.dropWhile_cons_of_neg c, List.takeWhile_cons_of_neg c]
      exact ⟨m, rfl, by rw [e6, List.length_cons]; omega, by rw [e9]; rfl, F65.refl _ _⟩
def rv (q : List Nat) : Int := if kd q = 2 then ((min (vl q) 99999 : Nat) : Int) else 0
/-- the reference's token stands at the beginning of this rest of the tape -/
def TR (bs q : List Nat) (m : hMem) : Prop := TpR bs m ∧ (∃ p, bs = p ++ q) ∧ m 65 8 = (kd q : Int) ∧ m 65 7 = pl bs q ∧ m 65 6 = ((bs.length - (rs q).length : Nat) : Int) ∧ m 65 9 = rv q
def Jt4 (j : Nat) : Prop := j = 6 ∨ j = 7 ∨ j = 8 ∨ j = 9
theorem r_nextL {bs : List Nat} (h6 : bs.length ≤ 600) (hb : ∀ x ∈ bs, x < 256) : ∀ (r p : List Nat) (n : Nat) (m : hMem), r.length < n → TpR bs m → bs = p ++ r → m 65 6 = (p.length : Int) → ∃ m', L_X11_next_0 n m = some (0, m') ∧ TR bs (r.dropWhile bBl) m' ∧ F65 Jt4 m m'
  | _, _, 0, _, hn, _, _, _ => by omega
  | [], p, n + 1, m, hn, h, e, e6 => by
    have e' : bs = p := by rw [List.append_nil] at e; exact e
    have a0 : ∀ mm : hMem, TpR bs mm → mm 65 6 = (p.length : Int) → ∀ lo hi, f_X11_isAt lo hi mm = some (0, mm) := fun mm hm hmm lo hi => r_isAt0 hm h6 (by rw [hmm, e'])
    show ∃ m', B_X11_next_0 (L_X11_next_0 n) m = _ ∧ _
    unfold B_X11_next_0
    obtain ⟨m2, em2⟩ : ∃ m2 : hMem, m2 = hv_up (hv_up m 65 7 (p.length : Int)) 65 9 0 := ⟨_, rfl⟩
    have F2 : F65 Jt4 m m2 := by rw [em2]; exact ((F65.refl _ _).up (Or.inr (Or.inl rfl))).up (Or.inr (Or.inr (Or.inr rfl)))
    have e62 : m2 65 6 = (p.length : Int) := by rw [em2, hp_up_j _ _ _ (by omega), hp_up_j _ _ _ (by omega)]; exact e6
    have e32 : m2 65 3 = (p.length : Int) := by rw [em2, hp_up_j _ _ _ (by omega), hp_up_j _ _ _ (by omega), h.1, e']
    have pl6 : p.length ≤ 600 := by rw [← e']; exact h6
    rw [a0 m h e6, hp_b, hp_eq_t (by decide) (by decide) rfl, a0 m h e6, hp_b, hp_eq_t (by decide) (by decide) rfl, hp_put, hp_put, e6, ← em2, e62, e32, hp_eq_t (by omega) (by omega) rfl, hp_put]
    refine ⟨_, rfl, ⟨?_, ⟨p, by simpa using e⟩, ?_, ?_, ?_, ?_⟩, F2.up (Or.inr (Or.inr (Or.inl rfl)))⟩
    · exact h.f65 (F2.up (J := Jt4) (Or.inr (Or.inr (Or.inl rfl)))) (by unfold Jt4; omega)
    · rw [hp_up_same]; rfl
    · rw [hp_up_j _ _ _ (by omega), em2, hp_up_j _ _ _ (by omega), hp_up_same, pl, e']; simp
    · rw [hp_up_j _ _ _ (by omega), e62, e']
      show _ = ((p.length - ([] : List Nat).length : Nat) : Int)
      simp
    · rw [hp_up_j _ _ _ (by omega), em2, hp_up_same]; rfl
  | x :: r, p, n + 1, m, hn, h, e, e6 => by
    have hx := hb x (by rw [e]; simp)
    have hl := congrArg List.length e
    rw [List.length_append, List.length_cons] at hl
    simp only [List.length_cons] at hn
    show ∃ m', B_X11_next_0 (L_X11_next_0 n) m = _ ∧ _
    unfold B_X11_next_0 J_X11_next_22
    rw [r_isAt h h6 e hx e6 (by decide) (by decide), hp_b]
    have F1 : F65 Jt4 m (hv_up m 65 6 ((p.length : Int) + 1)) := (F65.refl _ _).up (Or.inl rfl)
    have rec' : bBl x = true → ∃ m', L_X11_next_0 n (hv_up m 65 6 ((p.length : Int) + 1)) = some (0, m') ∧ TR bs ((x :: r).dropWhile bBl) m' ∧ F65 Jt4 m m' := fun c => by
      rw [List.dropWhile_cons_of_pos c]
      obtain ⟨m', g1, g2, g3⟩ := r_nextL h6 hb r (p ++ [x]) n (hv_up m 65 6 ((p.length : Int) + 1)) (by omega) (h.f65 F1 (by unfold Jt4; omega)) (by rw [e]; simp) (by rw [hp_up_same]; simp)
      exact ⟨m', g1, g2, F1.trans g3⟩
    by_cases c32 : x = 32
    · rw [if_pos (by omega), hp_eq_f (by decide) (by decide) (by decide), hp_put, e6]
      exact rec' (by simp [bBl, c32])
    · rw [if_neg (by omega), hp_eq_t (by decide) (by decide) rfl, r_isAt h h6 e hx e6 (by decide) (by decide), hp_b]
      by_cases c10 : x = 10
      · rw [if_pos (by omega), hp_eq_f (by decide) (by decide) (by decide), hp_put, e6]
        exact rec' (by simp [bBl, c10])
      · have cb : ¬ bBl x = true := by simp [bBl, c32, c10]
        rw [if_neg (by omega), hp_eq_t (by decide) (by decide) rfl, List.dropWhile_cons_of_neg cb, hp_put, hp_put, e6]
        obtain ⟨m2, em2⟩ : ∃ m2 : hMem, m2 = hv_up (hv_up m 65 7 (p.length : Int)) 65 9 0 := ⟨_, rfl⟩
        have F2 : F65 Jt4 m m2 := by rw [em2]; exact ((F65.refl _ _).up (Or.inr (Or.inl rfl))).up (Or.inr (Or.inr (Or.inr rfl)))
        have e62 : m2 65 6 = (p.length : Int) := by rw [em2, hp_up_j _ _ _ (by omega), hp_up_j _ _ _ (by omega)]; exact e6
        have e72 : m2 65 7 = (p.length : Int) := by rw [em2, hp_up_j _ _ _ (by omega), hp_up_same]
        have e92 : m2 65 9 = 0 := by rw [em2, hp_up_same]
        have h2 : TpR bs m2 := h.f65 F2 (by unfold Jt4; omega)
        have epl : pl bs (x :: r) = (p.length : Int) := by unfold pl; rw [List.length_cons]; omega
        rw [← em2, e62, h2.1, hp_eq_f (by omega) (by omega) (by omega), r_isAt h2 h6 e hx e62 (by decide) (by decide), hp_b]
        by_cases c : bLe x = true
        · have ek : kd (x :: r) = 1 := by simp [kd, c]
          have er : rs (x :: r) = r.dropWhile bLe := by simp [rs, c]
          rw [if_pos ((le_i x).mpr c), hp_eq_f (by decide) (by decide) (by decide), hp_put]
          obtain ⟨m3, em3⟩ : ∃ m3 : hMem, m3 = hv_up m2 65 8 1 := ⟨_, rfl⟩
          have F3 : F65 Jt4 m m3 := by rw [em3]; exact F2.up (Or.inr (Or.inr (Or.inl rfl)))
          rw [← em3]
          have hdw : (x :: r).dropWhile bLe = r.dropWhile bLe := List.dropWhile_cons_of_pos c
          obtain ⟨m', g1, g2, g3⟩ := r_letters h6 hb (x :: r) p hv_FU m3 (fu_lt (by rw [List.length_cons]; omega)) (h.f65 F3 (by unfold Jt4; omega)) e (by rw [em3, hp_up_j _ _ _ (by omega)]; exact e62)
          rw [hdw] at g2
          refine ⟨m', g1, ⟨h.f65 (F3.trans (g3.mono (K := Jt4) (fun j hj => Or.inl hj))) (by unfold Jt4; omega), ⟨p, e⟩, ?_, ?_, by rw [er]; exact g2, ?_⟩, F3.trans (g3.mono (fun j hj => Or.inl hj))⟩
          · rw [g3.2 8 (by omega), em3, hp_up_same, ek]; rfl
          · rw [g3.2 7 (by omega), em3, hp_up_j _ _ _ (by omega), e72, epl]
          · rw [g3.2 9 (by omega), em3, hp_up_j _ _ _ (by omega), e92, rv, if_neg (by omega)]
        · rw [if_neg (fun z => c ((le_i x).mp z)), hp_eq_t (by decide) (by decide) rfl, r_isAt h2 h6 e hx e62 (by decide) (by decide), hp_b]
          by_cases c2 : bDi x = true
          · have ek : kd (x :: r) = 2 := by simp [kd, c, c2]
            have er : rs (x :: r) = r.dropWhile bDi := by simp [rs, c, c2]
            rw [if_pos ((di_i x).mpr c2), hp_eq_f (by decide) (by decide) (by decide), hp_put]
            obtain ⟨m3, em3⟩ : ∃ m3 : hMem, m3 = hv_up m2 65 8 2 := ⟨_, rfl⟩
            have F3 : F65 Jt4 m m3 := by rw [em3]; exact F2.up (Or.inr (Or.inr (Or.inl rfl)))
            rw [← em3]
            have hdw : (x :: r).dropWhile bDi = r.dropWhile bDi := List.dropWhile_cons_of_pos c2
            obtain ⟨m', g1, g2, g3, g4⟩ := r_digits h6 hb (x :: r) p hv_FU 0 m3 (fu_lt (by rw [List.length_cons]; omega)) (h.f65 F3 (by unfold Jt4; omega)) e (by rw [em3, hp_up_j _ _ _ (by omega)]; exact e62) (by rw [em3, hp_up_j _ _ _ (by omega), e92]; rfl)
            rw [hdw] at g2
            have F4 : F65 Jt4 m m' := F3.trans (g4.mono (fun j hj => by rcases hj with e | e; exact Or.inl e; exact Or.inr (Or.inr (Or.inr e))))
            refine ⟨m', g1, ⟨h.f65 F4 (by unfold Jt4; omega), ⟨p, e⟩, ?_, ?_, by rw [er]; exact g2, ?_⟩, F4⟩
            · rw [g4.2 8 (by omega), em3, hp_up_same, ek]; rfl
            · rw [g4.2 7 (by omega), em3, hp_up_j _ _ _ (by omega), e72, epl]
            · rw [g3, rv, if_pos ek]; rfl
          · have er : rs (x :: r) = r := by simp [rs, c, c2]
            rw [if_neg (fun z => c2 ((di_i x).mp z)), hp_eq_t (by decide) (by decide) rfl, r_isAt h2 h6 e hx e62 (by decide) (by decide), hp_b]
            have fin : ∀ s : Nat, kd (x :: r) = s → s ≠ 2 → ∃ m', J_X11_next_193 (s : Int) m2 = some (0, m') ∧ TR bs (x :: r) m' ∧ F65 Jt4 m m' := by
              intro s es hs
              unfold J_X11_next_193
              rw [hp_put, hp_put, hp_up_j _ _ _ (by omega), e62]
              have F4 : F65 Jt4 m (hv_up (hv_up m2 65 8 (s : Int)) 65 6 ((p.length : Int) + 1)) := (F2.up (Or.inr (Or.inr (Or.inl rfl)))).up (Or.inl rfl)
              refine ⟨_, rfl, ⟨h.f65 F4 (by unfold Jt4; omega), ⟨p, e⟩, ?_, ?_, ?_, ?_⟩, F4⟩
              · rw [hp_up_j _ _ _ (by omega), hp_up_same, es]
              · rw [hp_up_j _ _ _ (by omega), hp_up_j _ _ _ (by omega), e72, epl]
              · rw [hp_up_same, er]; omega
              · rw [hp_up_j _ _ _ (by omega), hp_up_j _ _ _ (by omega), e92, rv, if_neg (by omega)]
            by_cases c3 : x = 59
            · rw [if_pos (by omega), hp_eq_f (by decide) (by decide) (by decide)]
              exact fin 3 (by show (if bLe x = true then 1 else if bDi x = true then 2 else if x = 59 then 3 else 4) = 3; rw [if_neg c, if_neg c2, if_pos c3]) (by omega)
            · rw [if_neg (by omega), hp_eq_t (by decide) (by decide) rfl]
              exact fin 4 (by show (if bLe x = true then 1 else if bDi x = true then 2 else if x = 59 then 3 else 4) = 4; rw [if_neg c, if_neg c2, if_neg c3]) (by omega)
theorem r_next {bs q : List Nat} {m : hMem} (h6 : bs.length ≤ 600) (hb : ∀ x ∈ bs, x < 256) (h : TR bs q m) : ∃ m', f_X11_next m = some (0, m') ∧ TR bs (nx q) m' ∧ F65 Jt4 m m' := by
  obtain ⟨h1, ⟨p, e⟩, h2, h3, h4, h5⟩ := h
  obtain ⟨p2, e2⟩ := rs_suf q
  have e3 : bs = (p ++ p2) ++ rs q := by rw [List.append_assoc, ← e2]; exact e
  have l3 := congrArg List.length e3
  rw [List.length_append] at l3
  exact r_nextL h6 hb (rs q) (p ++ p2) hv_FU m (fu_lt (by omega)) h1 e3 (by rw [h4]; omega)
