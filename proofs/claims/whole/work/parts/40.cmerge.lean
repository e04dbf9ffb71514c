/-! the class's heaps: the row aside, turned, all but one, the least, merge -/
def Fa (b : Nat) (n : Int) (m m' : hMem) : Prop := (∀ k, k < b ∨ (b + 11 ≤ k ∧ k ≠ b + 15) → m' k = m k) ∧ (∀ j, j ≠ 8 → m' b j = m b j) ∧ m' b 8 = m b 8 + n
theorem Fl.fa {b : Nat} {n : Int} {m m' : hMem} (h : Fl b n m m') : Fa b n m m' := ⟨fun k hk => h.1 k (by omega), h.2.1, h.2.2⟩
theorem Fa.refl (b : Nat) (m : hMem) : Fa b 0 m m := ⟨fun _ _ => rfl, fun _ _ => rfl, by omega⟩
theorem Fa.trans {b : Nat} {n1 n2 : Int} {m1 m2 m3 : hMem} (h1 : Fa b n1 m1 m2) (h2 : Fa b n2 m2 m3) : Fa b (n1 + n2) m1 m3 :=
  ⟨fun k hk => (h2.1 k hk).trans (h1.1 k hk), fun j hj => (h2.2.1 j hj).trans (h1.2.1 j hj), by have := h1.2.2; have := h2.2.2; omega⟩
theorem Fa.cast {b : Nat} {n n' : Int} {m m' : hMem} (h : Fa b n m m') (e : n = n') : Fa b n' m m' := e ▸ h
/-- what lies aside, the last one first -/
def asR (b : Nat) (m : hMem) : List Nat → Prop
  | [] => True
  | x :: l => m (b + 15) l.length = (x : Int) ∧ asR b m l
theorem asR.eq {b : Nat} {m m' : hMem} (e : m' (b + 15) = m (b + 15)) : ∀ {l : List Nat}, asR b m l → asR b m' l
  | [], _ => trivial
  | x :: l, h => ⟨by rw [e]; exact h.1, asR.eq e h.2⟩
theorem asR.up {b : Nat} {m : hMem} {v : Int} : ∀ {l : List Nat} {j : Nat}, l.length ≤ j → asR b m l → asR b (hv_up m (b + 15) j v) l
  | [], _, _, _ => trivial
  | x :: l, j, hj, h => by
    simp only [List.length_cons] at hj
    exact ⟨by rw [hp_up_j _ _ _ (by omega)]; exact h.1, asR.up (by omega) h.2⟩
theorem asR.push {b : Nat} {m : hMem} {x : Nat} {l : List Nat} (h : asR b m l) : asR b (hv_up m (b + 15) l.length (x : Int)) (x :: l) := ⟨by rw [hp_up_same], asR.up (Nat.le_refl _) h⟩
theorem Ce.up {b : Nat} {A : hA} {R j : Nat} {v : Int} {m : hMem} (h : Ce (b + 1) A R m) : Ce (b + 1) A R (hv_up m (b + 15) j v) := h.eq (fun k h1 h2 => hp_up_kk m _ _ (by omega))
theorem Ex.up (b n R j : Nat) (v : Int) (m : hMem) : Ex (b + 1) n R m (hv_up m (b + 15) j v) := Ex.of_eq (fun k h1 h2 => hp_up_kk m _ _ (by omega))
theorem Fa.up (b j : Nat) (v : Int) (m : hMem) : Fa b 0 m (hv_up m (b + 15) j v) := ⟨fun k hk => hp_up_kk m _ _ (by omega), fun j' _ => by rw [hp_up_k _ _ _ _ (by omega)], by rw [hp_up_k _ _ _ _ (by omega)]; omega⟩
theorem c_leastL {law b : Nat} {A : hA} {R : Nat} {m : hMem} (h : Ce (b + 1) A R m) (hw : Wf law A) : ∀ (q : List Nat) (n t i : Nat) (k : Int), q.length < n → i + q.length < 64 → Rw (b + 1) m R k q → t < A.length → (∀ x ∈ q, x < A.length) → L_X2_leastOf_21 b n (t : Int) k (i : Int) m = some ((s_least A t q : Int), m)
  | [], n + 1, t, i, k, hn, hi, hk, ht, hq => by
    have hk0 : k = 0 := hk
    show B_X2_leastOf_21 b (L_X2_leastOf_21 b n) (t : Int) k (i : Int) m = _
    unfold B_X2_leastOf_21
    simp only [List.length_nil] at hi
    rw [hp_lt_t (by omega) (by omega) (by omega), hp_eq_t (by omega) (by decide) hk0]
    rfl
  | x :: q, n + 1, t, i, k, hn, hi, hk, ht, hq => by
    have hx := hq x (by simp)
    have bx := wf_tn hw hx
    have bt := wf_tn hw ht
    simp only [List.length_cons] at hn hi
    have hk0 : k ≠ 0 := fun e => by have := hk.nil_iff.mp e; cases this
    have hkl := hk.lt h.2.2.2.2.2.1
    have hf : f_X1_firstOf (b + 1) k m = some ((x : Int), m) := ce_first h hk
    obtain ⟨kr, r1, r2⟩ := ce_rest h hk
    have r2 : Rw (b + 1) m R kr q := r2
    show B_X2_leastOf_21 b (L_X2_leastOf_21 b n) (t : Int) k (i : Int) m = _
    unfold B_X2_leastOf_21 J_X2_leastOf_67
    rw [hp_lt_t (by omega) (by omega) (by omega), hp_eq_f (by omega) (by decide) (by omega), hf, hp_b, ce_turn h hx, hp_b, ce_turn h ht, hp_b]
    unfold s_least
    by_cases c : tn A x < tn A t
    · rw [hp_lt_t (by omega) (by omega) (by omega), if_pos c, hf, hp_b, r1, hp_b, hp_set]
      exact c_leastL h hw q n x (i + 1) kr (by omega) (by omega) r2 hx (fun y hy => hq y (by simp [hy]))
    · rw [hp_lt_f (by omega) (by omega) (by omega), if_neg c, r1, hp_b, hp_set]
      exact c_leastL h hw q n t (i + 1) kr (by omega) (by omega) r2 ht (fun y hy => hq y (by simp [hy]))
  | [], 0, _, _, _, hn, _, _, _, _ => by simp at hn
  | x :: q, 0, _, _, _, hn, _, _, _, _ => by simp at hn
theorem c_least {law b : Nat} {A : hA} {R x : Nat} {q : List Nat} {k : Int} {m : hMem} (h : Ce (b + 1) A R m) (hw : Wf law A) (hk : Rw (b + 1) m R k (x :: q)) (hq : ∀ y ∈ x :: q, y < A.length) (hl : q.length < 60) : f_X2_leastOf b k m = some ((s_least A x q : Int), m) := by
  obtain ⟨kr, r1, r2⟩ := ce_rest h hk
  unfold f_X2_leastOf
  rw [ce_first h hk, hp_b, r1, hp_b]
  exact c_leastL h hw q hv_FU x 0 kr (fu_lt (by omega)) (by omega) r2 (hq x (by simp)) (fun y hy => hq y (by simp [hy]))
theorem c_turnedL {b : Nat} {A : hA} : ∀ (q : List Nat) (n i R : Nat) (l : List Nat) (a k : Int) (m : hMem), q.length < n → i + q.length < 64 → Ce (b + 1) A R m → Rw (b + 1) m R k q → Rw (b + 1) m R a l → R + q.length ≤ 2592 →
    ∃ k' m', L_X2_turned_7 b n a k (i : Int) m = some (k', m') ∧ Ce (b + 1) A (R + q.length) m' ∧ Rw (b + 1) m' (R + q.length) k' (q.reverse ++ l) ∧ Ex (b + 1) A.length R m m' ∧ Fl b 0 m m'
  | [], n + 1, i, R, l, a, k, m, hn, hi, h, hk, ha, hR => by
    have hk0 : k = 0 := hk
    refine ⟨a, m, ?_, h, ha, Ex.refl _ _ _ _, Fl.refl _ _⟩
    show B_X2_turned_7 b (L_X2_turned_7 b n) a k (i : Int) m = _
    unfold B_X2_turned_7
    simp only [List.length_nil] at hi
    rw [hp_lt_t (by omega) (by omega) (by omega), hp_eq_t (by omega) (by decide) hk0]
    rfl
  | x :: q, n + 1, i, R, l, a, k, m, hn, hi, h, hk, ha, hR => by
    simp only [List.length_cons] at hn hi hR
    have hk0 : k ≠ 0 := fun e => by have := hk.nil_iff.mp e; cases this
    have hkl := hk.lt h.2.2.2.2.2.1
    obtain ⟨m1, r1, r2, r3, r4, r5⟩ := ce_row (x := x) h (by omega) ha
    obtain ⟨kr, s1, s2⟩ := ce_rest r2 (Rw.ex r4 (by omega) hk)
    obtain ⟨k', m', g1, g2, g3, g4, g5⟩ := c_turnedL q n (i + 1) (R + 1) (x :: l) (R : Int) kr m1 (by omega) (by omega) r2 s2 r3 (by omega)
    refine ⟨k', m', ?_, ?_, ?_, r4.trans g4 (Nat.le_refl _) (by omega), ((Fl.of_Fr r5).trans g5).cast (by omega)⟩
    · show B_X2_turned_7 b (L_X2_turned_7 b n) a k (i : Int) m = _
      unfold B_X2_turned_7
      rw [hp_lt_t (by omega) (by omega) (by omega), hp_eq_f (by omega) (by decide) (by omega), ce_first h hk, hp_b]
      rw [show (((x :: q).headD 0 : Nat) : Int) = (x : Int) from rfl, r1, hp_b, s1, hp_b, hp_set]
      exact g1
    · rw [show R + (x :: q).length = R + 1 + q.length by simp; omega]; exact g2
    · rw [show R + (x :: q).length = R + 1 + q.length by simp; omega, show (x :: q).reverse ++ l = q.reverse ++ (x :: l) by simp]; exact g3
  | [], 0, _, _, _, _, _, _, hn, _, _, _, _, _ => by simp at hn
  | x :: q, 0, _, _, _, _, _, _, hn, _, _, _, _, _ => by simp at hn
theorem c_but79 {b : Nat} {A : hA} : ∀ (l : List Nat) (n R : Nat) (r : List Nat) (a : Int) (m : hMem), l.length < n → l.length < 64 → Ce (b + 1) A R m → asR b m l → Rw (b + 1) m R a r → R + l.length ≤ 2592 →
    ∃ k' m', L_X2_allBut_79 b n a ((l.length : Int) - 1) m = some (k', m') ∧ Ce (b + 1) A (R + l.length) m' ∧ Rw (b + 1) m' (R + l.length) k' (l.reverse ++ r) ∧ Ex (b + 1) A.length R m m' ∧ Fl b 0 m m'
  | [], n + 1, R, r, a, m, hn, h64, h, has, ha, hR => by
    refine ⟨a, m, ?_, h, ha, Ex.refl _ _ _ _, Fl.refl _ _⟩
    show B_X2_allBut_79 b (L_X2_allBut_79 b n) a (((0 : Nat) : Int) - 1) m = _
    unfold B_X2_allBut_79
    rw [hp_lt_t (by decide) (by decide) (by decide)]
    rfl
  | x :: l, n + 1, R, r, a, m, hn, h64, h, has, ha, hR => by
    simp only [List.length_cons] at hn hR h64
    obtain ⟨m1, r1, r2, r3, r4, r5⟩ := ce_row (x := x) h (by omega) ha
    have hF := Fl.of_Fr r5
    obtain ⟨k', m', g1, g2, g3, g4, g5⟩ := c_but79 l n (R + 1) (x :: r) (R : Int) m1 (by omega) (by omega) r2 (asR.eq (hF.1 _ (by omega)) has.2) r3 (by omega)
    refine ⟨k', m', ?_, ?_, ?_, r4.trans g4 (Nat.le_refl _) (by omega), (hF.trans g5).cast (by omega)⟩
    · show B_X2_allBut_79 b (L_X2_allBut_79 b n) a (((x :: l).length : Int) - 1) m = _
      unfold B_X2_allBut_79
      rw [show (((x :: l).length : Nat) : Int) - 1 = (l.length : Int) by simp]
      rw [hp_lt_f (by omega) (by decide) (by omega), fe_at' (by omega) (by omega) (by omega), hp_b, Int.toNat_natCast, has.1, r1, hp_b, hp_set]
      rw [show (l.length : Int) + -1 = (l.length : Int) - 1 by omega]
      exact g1
    · rw [show R + (x :: l).length = R + 1 + l.length by simp; omega]; exact g2
    · rw [show R + (x :: l).length = R + 1 + l.length by simp; omega, show (x :: l).reverse ++ r = l.reverse ++ (x :: r) by simp]; exact g3
  | [], 0, _, _, _, _, hn, _, _, _, _, _ => by simp at hn
  | x :: l, 0, _, _, _, _, hn, _, _, _, _, _ => by simp at hn
theorem c_butL {law b : Nat} {A : hA} {o R : Nat} (ho : o < A.length) (hw : Wf law A) : ∀ (q : List Nat) (n : Nat) (l : List Nat) (k : Int) (m : hMem), q.length < n → l.length + q.length < 64 → Ce (b + 1) A R m → asR b m l → Rw (b + 1) m R k q → o ∈ q → (∀ x ∈ q, x < A.length) → R + l.length + q.length ≤ 2592 →
    ∃ k' m' R', L_X2_allBut_5 b n (o : Int) (l.length : Int) k m = some (k', m') ∧ R ≤ R' ∧ R' + 1 ≤ R + l.length + q.length ∧ Ce (b + 1) A R' m' ∧ Rw (b + 1) m' R' k' (l.reverse ++ s_but o q) ∧ Ex (b + 1) A.length R m m' ∧ Fa b 0 m m'
  | [], _, _, _, _, _, _, _, _, _, ho, _, _ => by simp at ho
  | x :: q, 0, _, _, _, hn, _, _, _, _, _, _, _ => by simp at hn
  | x :: q, n + 1, l, k, m, hn, hi, h, has, hk, hoq, hq, hR => by
    simp only [List.length_cons] at hn hi hR
    have hx := hq x (by simp)
    have hAl := h.lt
    have hk0 : k ≠ 0 := fun e => by have := hk.nil_iff.mp e; cases this
    have hkl := hk.lt h.2.2.2.2.2.1
    have hf : f_X1_firstOf (b + 1) k m = some ((x : Int), m) := ce_first h hk
    have step : L_X2_allBut_5 b (n + 1) (o : Int) (l.length : Int) k m = hv_eq (x : Int) (o : Int) (J_X2_allBut_63 b (l.length : Int) k m) (hv_b (f_X10_set (b + 15) 64 (l.length : Int) (x : Int) m) (fun r5 m6 => hv_set ((l.length : Int) + 1) (fun y7 => hv_b (f_X1_restOf (b + 1) k m6) (fun r8 m9 => L_X2_allBut_5 b n (o : Int) y7 r8 m9)))) := by
      show B_X2_allBut_5 b (L_X2_allBut_5 b n) (o : Int) (l.length : Int) k m = _
      unfold B_X2_allBut_5
      rw [hp_lt_t (by omega) (by omega) (by omega), hp_eq_f (by omega) (by decide) (by omega), hf, hp_b, hf, hp_b]
    rw [step]
    unfold s_but
    by_cases c : x = o
    · rw [if_pos c, hp_eq_t (by omega) (by omega) (by omega)]
      obtain ⟨kr, r1, r2⟩ := ce_rest h hk
      have r2 : Rw (b + 1) m R kr q := r2
      obtain ⟨k', m', g1, g2, g3, g4, g5⟩ := c_but79 (b := b) l hv_FU R q kr m (fu_lt (by omega)) (by omega) h has r2 (by omega)
      refine ⟨k', m', R + l.length, ?_, by omega, by simp only [List.length_cons]; omega, g2, g3, g4, g5.fa⟩
      unfold J_X2_allBut_63
      rw [r1, hp_b, hp_set]
      exact g1
    · rw [if_neg c, hp_eq_f (by omega) (by omega) (by omega), fe_set (by omega) (by omega) (by omega), hp_b, hp_set, Int.toNat_natCast]
      have h1 : Ce (b + 1) A R (hv_up m (b + 15) l.length (x : Int)) := h.up
      have hE1 := Ex.up b A.length R l.length (x : Int) m
      obtain ⟨kr, r1, r2⟩ := ce_rest h1 (Rw.ex hE1 (Nat.le_refl _) hk)
      have r2 : Rw (b + 1) (hv_up m (b + 15) l.length (x : Int)) R kr q := r2
      rw [r1, hp_b]
      obtain ⟨k', m', R', g1, g2, g3, g4, g5, g6, g7⟩ := c_butL ho hw q n (x :: l) kr (hv_up m (b + 15) l.length (x : Int)) (by omega) (by simp; omega) h1 has.push r2 (by
        rcases List.mem_cons.mp hoq with e | e
        · exact absurd e.symm c
        · exact e) (fun y hy => hq y (by simp [hy])) (by simp; omega)
      refine ⟨k', m', R', ?_, g2, ?_, g4, ?_, hE1.trans g6 (Nat.le_refl _) (Nat.le_refl _), ((Fa.up b l.length (x : Int) m).trans g7).cast (by omega)⟩
      · rw [show (l.length : Int) + 1 = (((x :: l).length : Nat) : Int) by simp]
        exact g1
      · simp only [List.length_cons] at g3 ⊢
        omega
      · rw [show l.reverse ++ (x :: s_but o q) = (x :: l).reverse ++ s_but o q by simp]
        exact g5
