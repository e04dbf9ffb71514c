/-! the class's reader reads what the tape says -/
theorem fb_bad {f : Int × Int} (h : f.1 ≠ 0) (ok : Bool) (k p : Int) : fb f ok k p = f := by unfold fb; rw [if_neg (fun c => h c.1)]
theorem fb_f {f : Int × Int} (h : f.1 = 0) (k p : Int) : fb f false k p = (k, p) := by unfold fb; rw [if_pos ⟨h, rfl⟩]
theorem nf_bad {f : Int × Int} (h : f.1 ≠ 0) (bs q : List Nat) (lo hi : Int) : nf f bs q lo hi = f := by
  unfold nf
  split
  · exact fb_bad h _ _ _
  · exact fb_bad h _ _ _
theorem num_good {bs q : List Nat} {lo hi v : Nat} (h : e_num bs q lo hi = .ok v) (hh : hi ≤ 1000) (f : Int × Int) : nf f bs q (lo : Int) ((hi : Int) - 1) = f ∧ nv q = (v : Int) ∧ nq q = nx q := by
  obtain ⟨a1, a2, a3, a4⟩ := num_ok h
  have e : nv q = (v : Int) := by unfold nv; rw [if_pos a1]; omega
  refine ⟨?_, e, by unfold nq; rw [if_pos a1]⟩
  unfold nf
  rw [if_pos a1, e, show decide ((lo : Int) ≤ (v : Int) ∧ (v : Int) ≤ (hi : Int) - 1) = true by simp; omega, fb_t]
theorem num_bad {bs q : List Nat} {lo hi : Nat} {e : Int × Int} (h : e_num bs q lo hi = .error e) (hh : hi ≤ 1000) {f : Int × Int} (hf : f.1 = 0) : nf f bs q (lo : Int) ((hi : Int) - 1) = e ∧ (e.1 = 1 ∨ e.1 = 2) := by
  unfold e_num at h
  unfold nf
  split at h
  · rename_i c
    split at h
    · cases h
    · rename_i c2
      injection h with h
      have e1 : nv q = ((min (vl q) 10000 : Nat) : Int) := by unfold nv; rw [if_pos c]
      rw [if_pos c, e1, show decide ((lo : Int) ≤ ((min (vl q) 10000 : Nat) : Int) ∧ ((min (vl q) 10000 : Nat) : Int) ≤ (hi : Int) - 1) = false by simp; omega, fb_f hf, ← h]
      exact ⟨rfl, Or.inr rfl⟩
  · rename_i c
    injection h with h
    rw [if_neg c, fb_f hf, ← h]
    exact ⟨rfl, Or.inl rfl⟩
theorem end_good {α : Type} {bs q : List Nat} {a : α} {r : α × List Nat} (h : e_end bs q a = .ok r) (f : Int × Int) : fb f (decide (kd q = 3)) 1 (pl bs q) = f ∧ r = (a, nx q) := by
  obtain ⟨b, q'⟩ := r
  obtain ⟨a1, a2, a3⟩ := end_ok h
  exact ⟨by rw [show decide (kd q = 3) = true by simp [a1], fb_t], by rw [a2, a3]⟩
theorem end_bad {α : Type} {bs q : List Nat} {a : α} {e : Int × Int} (h : e_end bs q a = .error e) {f : Int × Int} (hf : f.1 = 0) : fb f (decide (kd q = 3)) 1 (pl bs q) = e ∧ e.1 = 1 := by
  unfold e_end at h
  split at h
  · cases h
  · rename_i c
    injection h with h
    rw [show decide (kd q = 3) = false by simp [c], fb_f hf, ← h]
    exact ⟨rfl, rfl⟩
theorem Rd.put {bs q : List Nat} {f : Int × Int} {m : hMem} (h : Rd bs q f m) {j : Nat} (hj : j ≠ 11 ∧ j ≠ 12) (v : Int) : Rd bs q f (hv_up m 3 j v) := by
  obtain ⟨q1, q2, q3, q4⟩ := h
  exact ⟨q1.eq (hp_up_kk _ _ _ (by omega)) (hp_up_kk _ _ _ (by omega)) (hp_up_kk _ _ _ (by omega)), by rw [hp_up_j _ _ _ (by omega)]; exact q2, by rw [hp_up_j _ _ _ (by omega)]; exact q3, q4⟩
theorem Rd.eq {bs q : List Nat} {f : Int × Int} {m m' : hMem} (h : Rd bs q f m) (e1 : m' 1 = m 1) (e2 : m' 2 = m 2) (e3 : m' 3 = m 3) (e4 : m' 4 = m 4) : Rd bs q f m' := by
  obtain ⟨q1, q2, q3, q4⟩ := h
  exact ⟨q1.eq e1 e2 e4, by rw [e3]; exact q2, by rw [e3]; exact q3, q4⟩
theorem bad1 (p : Int) : ((1 : Int), p).1 ≠ 0 := by show (1 : Int) ≠ 0; decide
theorem bad2 (p : Int) : ((2 : Int), p).1 ≠ 0 := by show (2 : Int) ≠ 0; decide
theorem bad3 (p : Int) : ((3 : Int), p).1 ≠ 0 := by show (3 : Int) ≠ 0; decide
def f0 : Int × Int := (0, -1)
/-- reader's frame: its own cells -/
def Fp (m m' : hMem) : Prop := ∀ k, k < 3 ∨ 11 ≤ k → m' k = m k
theorem Fk.fp {m m' : hMem} (h : Fk m m') : Fp m m' := fun k hk => h.1 k (by omega) (by omega)
theorem Fp.trans {m1 m2 m3 : hMem} (h1 : Fp m1 m2) (h2 : Fp m2 m3) : Fp m1 m3 := fun k hk => (h2 k hk).trans (h1 k hk)
theorem Fp.up {m m1 : hMem} {k j : Nat} {v : Int} (h : Fp m m1) (hk : 3 ≤ k ∧ k < 11) : Fp m (hv_up m1 k j v) := fun q hq => by rw [hp_up_kk _ _ _ (by omega)]; exact h q hq
theorem c_readPlan {bs q : List Nat} {m : hMem} (h : Rd bs q f0 m) : ∃ m', f_X4_readPlan m = some (0, m') ∧ Fp m m' ∧ (∀ k, 5 ≤ k → k < 11 → m' k = m k) ∧ (∀ j, j = 9 ∨ j = 10 → m' 3 j = m 3 j) ∧
    (match e_plan bs q with
     | .ok r => Rd bs r.2 f0 m' ∧ m' 3 7 = (r.1.1 : Int) ∧ m' 3 8 = (r.1.2 : Int)
     | .error f => f.1 ≠ 0 ∧ ∃ q', Rd bs q' f m') := by
  obtain ⟨m1, a1, a2, a3⟩ := c_passWord (w := 0) h (by omega)
  obtain ⟨m2, b1, b2, b3⟩ := c_passWord (w := 1) a2 (by omega)
  obtain ⟨m3, d1, d2, d3, -⟩ := c_passNumber (lo := 0) (hi := 1) b2 (by decide) (by decide)
  obtain ⟨m4, em4⟩ : ∃ m4 : hMem, m4 = hv_up m3 3 7 (nv (nx (nx q))) := ⟨_, rfl⟩
  have d2' := d2.put (j := 7) (by omega) (nv (nx (nx q)))
  rw [← em4] at d2'
  obtain ⟨m5, g1, g2, g3⟩ := c_passWord (w := 2) d2' (by omega)
  obtain ⟨m6, i1, i2, i3, -⟩ := c_passNumber (lo := 1) (hi := 4) g2 (by decide) (by decide)
  obtain ⟨m7, em7⟩ : ∃ m7 : hMem, m7 = hv_up m6 3 8 (nv (nx (nq (nx (nx q))))) := ⟨_, rfl⟩
  have i2' := i2.put (j := 8) (by omega) (nv (nx (nq (nx (nx q)))))
  rw [← em7] at i2'
  obtain ⟨m8, k1, k2, k3⟩ := c_passSign i2'
  have F4 : Fp m m4 := by rw [em4]; exact ((a3.trans b3).trans d3).fp.up (by omega)
  have F7 : Fp m4 m7 := by rw [em7]; exact (g3.trans i3).fp.up (by omega)
  refine ⟨m8, ?_, (F4.trans F7).trans k3.fp, fun k k5 k11 => ?_, fun j hj => ?_, ?_⟩
  · unfold f_X4_readPlan
    rw [a1, hp_b, b1, hp_b, d1, hp_b, hp_put, ← em4, g1, hp_b, i1, hp_b, hp_put, ← em7, k1, hp_b]
    rfl
  · rw [k3.1 k (by omega) (by omega), em7, hp_up_kk _ _ _ (by omega), i3.1 k (by omega) (by omega), g3.1 k (by omega) (by omega), em4, hp_up_kk _ _ _ (by omega), d3.1 k (by omega) (by omega), b3.1 k (by omega) (by omega), a3.1 k (by omega) (by omega)]
  · rw [k3.2 j (by omega) (by omega) (by omega), em7, hp_up_j _ _ _ (by omega), i3.2 j (by omega) (by omega) (by omega), g3.2 j (by omega) (by omega) (by omega), em4, hp_up_j _ _ _ (by omega), d3.2 j (by omega) (by omega) (by omega), b3.2 j (by omega) (by omega) (by omega), a3.2 j (by omega) (by omega) (by omega)]
  · unfold e_plan
    have z0 : f0.1 = 0 := rfl
    cases c0 : isw 0 q with
    | false =>
      rw [if_pos rfl]
      rw [c0, fb_f z0] at k2
      simp only [fb_bad (bad1 (pl bs q)), nf_bad (bad1 (pl bs q))] at k2
      exact ⟨bad1 _, _, k2⟩
    | true =>
      rw [if_neg (by simp)]
      rw [c0, fb_t] at k2
      cases c1 : isw 1 (nx q) with
      | false =>
        rw [if_pos rfl]
        rw [c1, fb_f z0] at k2
        simp only [fb_bad (bad1 (pl bs (nx q))), nf_bad (bad1 (pl bs (nx q)))] at k2
        exact ⟨bad1 _, _, k2⟩
      | true =>
        rw [if_neg (by simp)]
        rw [c1, fb_t] at k2
        cases c2 : e_num bs (nx (nx q)) 0 2 with
        | error e =>
          obtain ⟨n1, n2⟩ := num_bad c2 (by omega) z0
          have n1 : nf f0 bs (nx (nx q)) 0 1 = e := n1
          have ne : e.1 ≠ 0 := by omega
          rw [n1] at k2
          simp only [fb_bad ne, nf_bad ne] at k2
          exact ⟨ne, _, k2⟩
        | ok l =>
          obtain ⟨n1, n2, n3⟩ := num_good c2 (by omega) f0
          have n1 : nf f0 bs (nx (nx q)) 0 1 = f0 := n1
          rw [n1] at k2
          rw [n3] at k2 em7
          show match (if isw 2 (nx (nx (nx q))) = false then _ else _ : Except (Int × Int) ((Nat × Nat) × List Nat)) with | .ok r => _ | .error f => _
          cases c3 : isw 2 (nx (nx (nx q))) with
          | false =>
            rw [if_pos rfl]
            rw [c3, fb_f z0] at k2
            simp only [fb_bad (bad1 (pl bs (nx (nx (nx q))))), nf_bad (bad1 (pl bs (nx (nx (nx q)))))] at k2
            exact ⟨bad1 _, _, k2⟩
          | true =>
            rw [if_neg (by simp)]
            rw [c3, fb_t] at k2
            cases c4 : e_num bs (nx (nx (nx (nx q)))) 1 5 with
            | error e =>
              obtain ⟨p1, p2⟩ := num_bad c4 (by omega) z0
              have p1 : nf f0 bs (nx (nx (nx (nx q)))) 1 4 = e := p1
              have ne : e.1 ≠ 0 := by omega
              rw [p1] at k2
              simp only [fb_bad ne] at k2
              exact ⟨ne, _, k2⟩
            | ok t =>
              obtain ⟨p1, p2, p3⟩ := num_good c4 (by omega) f0
              have p1 : nf f0 bs (nx (nx (nx (nx q)))) 1 4 = f0 := p1
              rw [p1, p3] at k2
              show match e_end bs (nx (nx (nx (nx (nx q))))) (l, t) with | .ok r => _ | .error f => _
              cases c5 : e_end bs (nx (nx (nx (nx (nx q))))) (l, t) with
              | error e =>
                obtain ⟨r1, r2⟩ := end_bad c5 z0
                rw [r1] at k2
                exact ⟨by omega, _, k2⟩
              | ok r =>
                obtain ⟨r1, r2⟩ := end_good c5 f0
                rw [r1] at k2
                rw [r2]
                refine ⟨k2, ?_, ?_⟩
                · rw [k3.2 7 (by omega) (by omega) (by omega), em7, hp_up_j _ _ _ (by omega), i3.2 7 (by omega) (by omega) (by omega), g3.2 7 (by omega) (by omega) (by omega), em4, hp_up_same, n2]
                · rw [k3.2 8 (by omega) (by omega) (by omega), em7, hp_up_same, p2]
