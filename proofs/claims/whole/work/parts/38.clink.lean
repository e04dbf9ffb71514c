/-! the class's heaps: link, beside, carry -/
theorem Ex.of_eq {c n R : Nat} {m m' : hMem} (e : ∀ k, c ≤ k → k < c + 10 → m' k = m k) : Ex c n R m m' :=
  ⟨fun j _ => ⟨congrFun (e (c + 8) (by omega) (by omega)) j, congrFun (e (c + 9) (by omega) (by omega)) j⟩, fun a _ i h1 h2 => congrFun (e (c + i) (by omega) (by omega)) a⟩
theorem Ce.eq {c : Nat} {A : hA} {R : Nat} {m m' : hMem} (h : Ce c A R m) (e : ∀ k, c ≤ k → k < c + 10 → m' k = m k) : Ce c A R m' := by
  have hE : Ex c A.length R m m' := Ex.of_eq e
  obtain ⟨e1, e2, e3, e4, e5, e6, e7, e8, e9, e10⟩ := h
  exact ⟨by rw [e c (by omega) (by omega)]; exact e1, by rw [e c (by omega) (by omega)]; exact e2, e3, e4, e5, e6, by rw [(hE.1 0 (by omega)).1]; exact e7, by rw [(hE.1 0 (by omega)).2]; exact e8, e9, fun a ha => Nr.ex hE (Nat.le_refl _) ha (e10 a ha)⟩
/-- what a heap function of the class leaves as it was; n links more -/
def Fl (b : Nat) (n : Int) (m m' : hMem) : Prop := (∀ k, k < b ∨ b + 11 ≤ k → m' k = m k) ∧ (∀ j, j ≠ 8 → m' b j = m b j) ∧ m' b 8 = m b 8 + n
theorem Fl.refl (b : Nat) (m : hMem) : Fl b 0 m m := ⟨fun _ _ => rfl, fun _ _ => rfl, by omega⟩
theorem Fl.trans {b : Nat} {n1 n2 : Int} {m1 m2 m3 : hMem} (h1 : Fl b n1 m1 m2) (h2 : Fl b n2 m2 m3) : Fl b (n1 + n2) m1 m3 :=
  ⟨fun k hk => (h2.1 k hk).trans (h1.1 k hk), fun j hj => (h2.2.1 j hj).trans (h1.2.1 j hj), by have := h1.2.2; have := h2.2.2; omega⟩
theorem Fl.of_Fr {b : Nat} {m m' : hMem} (h : Fr (b + 1) (b + 1 + 10) m m') : Fl b 0 m m' :=
  ⟨fun k hk => h k (by omega), fun j _ => congrFun (h b (by omega)) j, by rw [congrFun (h b (by omega)) 8]; omega⟩
theorem Fl.cast {b : Nat} {n n' : Int} {m m' : hMem} (h : Fl b n m m') (e : n = n') : Fl b n' m m' := e ▸ h
theorem wf_tn {law : Nat} {A : hA} (h : Wf law A) {a : Nat} (ha : a < A.length) : tn A a < 30000 ∧ rk A a < 30 ∧ n_holds (a_g A a) ≤ 24 ∧ n_deep (a_g A a) ≤ 24 := by
  by_cases h0 : a = 0
  · subst h0
    rw [tn, rk, h.2.1]
    exact ⟨by decide, by decide, by decide, by decide⟩
  · have w := h.2.2 a (by omega) ha
    refine ⟨(w.2.2.2.1 _ w.2.2.2.2.1).2, ?_, w.2.1, by have := w.2.1; have := w.2.2.2.2.2.1; omega⟩
    rcases w.1 with ⟨t, q, e, -⟩ | ⟨r, y, sg, bl, e, ⟨y1, y2, y3⟩, -, -, -, -, hsz⟩
    · rw [rk, e]; show 0 < 30; omega
    · rw [rk, e]
      show r < 30
      have h24 := w.2.1
      have g := (h.2.2 y y1 (by omega)).2.2
      have : 1 ≤ n_holds (a_g A y) := by rw [g.1]; exact List.length_pos_of_mem g.2.2.1
      have h1 : r < 5 ∨ 5 ≤ r := by omega
      rcases h1 with h1 | h1
      · omega
      · have : 2 ^ 5 ≤ 2 ^ r := Nat.pow_le_pow_right (by omega) h1
        omega
theorem link_hd {law : Nat} {A : hA} (h : Wf law A) {u d : Nat} (hu : Tl A [u]) : n_holds (mkT A A.length (rk A u + 1) (n_head (a_g A u)) (n_sg (a_g A u)) (d :: n_bl (a_g A u))) = n_holds (a_g A u) + n_holds (a_g A d) ∧ n_deep (mkT A A.length (rk A u + 1) (n_head (a_g A u)) (n_sg (a_g A u)) (d :: n_bl (a_g A u))) = max (n_deep (a_g A u)) (n_deep (a_g A d)) ∧ n_head (a_g A u) < A.length := by
  obtain ⟨r, y, sg, bl, e, ⟨y1, y2, y3⟩, -⟩ := wf_tree h hu
  have u2 := (hu u (by simp)).2.1
  have eh : n_head (a_g A u) = y := by rw [e]; rfl
  have es : n_sg (a_g A u) = sg := by rw [e]; rfl
  have eb : n_bl (a_g A u) = bl := by rw [e]; rfl
  have e1 : n_holds (a_g A u) = n_holds (a_g A y) + su A n_holds sg + su A n_holds bl := by rw [e]; rfl
  have e2 : n_deep (a_g A u) = max (n_deep (a_g A y)) (max (mx A n_deep sg) (mx A n_deep bl)) := by rw [e]; rfl
  rw [eh, es, eb]
  refine ⟨?_, ?_, by omega⟩
  · show n_holds (a_g A y) + su A n_holds sg + (n_holds (a_g A d) + su A n_holds bl) = _
    omega
  · show max (n_deep (a_g A y)) (max (mx A n_deep sg) (max (n_deep (a_g A d)) (mx A n_deep bl))) = _
    omega
theorem c_link59 {law b : Nat} {A : hA} {R x y u d : Nat} {m : hMem} (h : Ce (b + 1) A R m) (hw : Wf law A) (hR : R < 2592) (hA : A.length < 864) (hu : Tl A [u]) (hx : x < A.length) (hy : y < A.length) (e1 : n_holds (a_g A x) + n_holds (a_g A y) = n_holds (a_g A u) + n_holds (a_g A d)) (e2 : max (n_deep (a_g A x)) (n_deep (a_g A y)) = max (n_deep (a_g A u)) (n_deep (a_g A d))) :
    ∃ m', J_X2_link_59 b (x : Int) (y : Int) (u : Int) (d : Int) m = some ((A.length : Int), m') ∧ Ce (b + 1) (A ++ [mkT A A.length (rk A u + 1) (n_head (a_g A u)) (n_sg (a_g A u)) (d :: n_bl (a_g A u))]) (R + 1) m' ∧ Ex (b + 1) A.length R m m' ∧ Fl b 0 m m' := by
  obtain ⟨u1, u2, u3⟩ := hu u (by simp)
  obtain ⟨kb, k1, k2⟩ := ce_below h u2
  obtain ⟨m2, r1, r2, r3, r4, r5⟩ := ce_row (x := d) h hR k2
  obtain ⟨ks, s1, s2⟩ := ce_singles r2 u2
  obtain ⟨l1, l2, l3⟩ := link_hd hw (d := d) hu
  obtain ⟨m3, t1, t2, t3, t4⟩ := ce_tree (r := rk A u + 1) (x := n_head (a_g A u)) r2 hA l3 s2 r3 rfl rfl
  have bx := wf_tn hw hx
  have by' := wf_tn hw hy
  refine ⟨m3, ?_, t2, r4.trans t3 (Nat.le_refl _) (by omega), ((Fl.of_Fr r5).trans (Fl.of_Fr t4)).cast (by omega)⟩
  unfold J_X2_link_59
  rw [k1, hp_b, r1, hp_b, ce_rank r2 u2, hp_b]
  rw [hp_set]
  rw [ce_holds r2 hx, hp_b, ce_holds r2 hy, hp_b, hp_set, ce_deep r2 hx, hp_b, ce_deep r2 hy, hp_b, fe_max (by omega) (by omega), hp_b, ce_head r2 u2, hp_b, s1, hp_b]
  rw [l1, ← e1, l2, ← e2] at t1
  rw [show (n_holds (a_g A x) : Int) + (n_holds (a_g A y) : Int) = ((n_holds (a_g A x) + n_holds (a_g A y) : Nat) : Int) by omega, show max (n_deep (a_g A x) : Int) (n_deep (a_g A y) : Int) = ((max (n_deep (a_g A x)) (n_deep (a_g A y)) : Nat) : Int) by omega, show (rk A u : Int) + 1 = ((rk A u + 1 : Nat) : Int) by omega, t1, hp_b]
  rfl
theorem c_link {law b : Nat} {A : hA} {R x y : Nat} {m : hMem} (h : Ce (b + 1) A R m) (hw : Wf law A) (hR : R < 2592) (hA : A.length < 864) (hx : Tl A [x]) (hy : Tl A [y]) :
    ∃ m', f_X2_link b (x : Int) (y : Int) m = some ((A.length : Int), m') ∧ Ce (b + 1) (s_link A x y) (R + 1) m' ∧ Ex (b + 1) A.length R m m' ∧ Fl b 1 m m' := by
  obtain ⟨x1, x2, x3⟩ := hx x (by simp)
  obtain ⟨y1, y2, y3⟩ := hy y (by simp)
  have m1 : ∃ m1 : hMem, m1 = hv_up m b 8 (m b 8 + 1) := ⟨_, rfl⟩
  obtain ⟨m1, em1⟩ := m1
  have hq : ∀ k, k ≠ b → m1 k = m k := fun k hk => by rw [em1, hp_up_kk _ _ _ hk]
  have h1 : Ce (b + 1) A R m1 := h.eq (fun k g1 g2 => hq k (by omega))
  have hE1 : Ex (b + 1) A.length R m m1 := Ex.of_eq (fun k g1 g2 => hq k (by omega))
  have hF1 : Fl b 1 m m1 := ⟨fun k hk => hq k (by omega), fun j hj => by rw [em1, hp_up_j _ _ _ hj], by rw [em1, hp_up_same]⟩
  have bx := wf_tn hw x2
  have by' := wf_tn hw y2
  unfold f_X2_link s_link s_ln s_up s_dn
  rw [hp_put]
  rw [← em1, ce_turn h1 y2, hp_b, ce_turn h1 x2, hp_b]
  by_cases c : tn A y < tn A x
  · simp only [c, if_true]
    obtain ⟨m', g1, g2, g3, g4⟩ := c_link59 (x := x) (y := y) (d := x) h1 hw hR hA hy x2 y2 (by omega) (by omega)
    refine ⟨m', ?_, g2, hE1.trans g3 (Nat.le_refl _) (Nat.le_refl _), (hF1.trans g4).cast (by omega)⟩
    rw [hp_lt_t (by omega) (by omega) (by omega)]
    unfold J_X2_link_34
    rw [hp_eq_f (by decide) (by decide) (by omega)]
    unfold J_X2_link_44
    rw [hp_eq_f (by decide) (by decide) (by omega)]
    exact g1
  · simp only [c, if_false]
    obtain ⟨m', g1, g2, g3, g4⟩ := c_link59 (x := x) (y := y) (d := y) h1 hw hR hA hx x2 y2 (by omega) (by omega)
    refine ⟨m', ?_, g2, hE1.trans g3 (Nat.le_refl _) (Nat.le_refl _), (hF1.trans g4).cast (by omega)⟩
    rw [hp_lt_f (by omega) (by omega) (by omega)]
    unfold J_X2_link_34
    rw [hp_eq_t (by decide) (by decide) rfl]
    unfold J_X2_link_44
    rw [hp_eq_t (by decide) (by decide) rfl]
    exact g1
theorem c_beside59 {law b : Nat} {A : hA} {R t x hd sn : Nat} {m : hMem} (h : Ce (b + 1) A R m) (hw : Wf law A) (hR : R < 2592) (hA : A.length < 864) (ht : Tl A [t]) (hx : x < A.length) (hhd : hd < A.length) (e1 : n_holds (a_g A t) + n_holds (a_g A x) = n_holds (mkT A A.length (rk A t) hd (sn :: n_sg (a_g A t)) (n_bl (a_g A t)))) (e2 : max (n_deep (a_g A t)) (n_deep (a_g A x)) = n_deep (mkT A A.length (rk A t) hd (sn :: n_sg (a_g A t)) (n_bl (a_g A t)))) :
    ∃ m', J_X2_linkBeside_59 b (t : Int) (x : Int) (hd : Int) (sn : Int) m = some ((A.length : Int), m') ∧ Ce (b + 1) (A ++ [mkT A A.length (rk A t) hd (sn :: n_sg (a_g A t)) (n_bl (a_g A t))]) (R + 1) m' ∧ Ex (b + 1) A.length R m m' ∧ Fl b 0 m m' := by
  obtain ⟨t1', t2', t3'⟩ := ht t (by simp)
  obtain ⟨ks, k1, k2⟩ := ce_singles h t2'
  obtain ⟨m2, r1, r2, r3, r4, r5⟩ := ce_row (x := sn) h hR k2
  obtain ⟨kb, s1, s2⟩ := ce_below r2 t2'
  obtain ⟨m3, t1, t2, t3, t4⟩ := ce_tree (r := rk A t) (x := hd) r2 hA hhd r3 s2 rfl rfl
  have bx := wf_tn hw hx
  have bt := wf_tn hw t2'
  refine ⟨m3, ?_, t2, r4.trans t3 (Nat.le_refl _) (by omega), ((Fl.of_Fr r5).trans (Fl.of_Fr t4)).cast (by omega)⟩
  unfold J_X2_linkBeside_59
  rw [k1, hp_b, r1, hp_b, ce_holds r2 t2', hp_b, ce_holds r2 hx, hp_b]
  rw [hp_set]
  rw [ce_deep r2 t2', hp_b, ce_deep r2 hx, hp_b, fe_max (by omega) (by omega), hp_b, ce_rank r2 t2', hp_b, s1, hp_b]
  rw [← e1, ← e2] at t1
  rw [show (n_holds (a_g A t) : Int) + (n_holds (a_g A x) : Int) = ((n_holds (a_g A t) + n_holds (a_g A x) : Nat) : Int) by omega, show max (n_deep (a_g A t) : Int) (n_deep (a_g A x) : Int) = ((max (n_deep (a_g A t)) (n_deep (a_g A x)) : Nat) : Int) by omega, t1, hp_b]
  rfl
theorem c_beside {law b : Nat} {A : hA} {R t x : Nat} {m : hMem} (h : Ce (b + 1) A R m) (hw : Wf law A) (hR : R < 2592) (hA : A.length < 864) (ht : Tl A [t]) (hx : x < A.length) :
    ∃ m', f_X2_linkBeside b (t : Int) (x : Int) m = some ((A.length : Int), m') ∧ Ce (b + 1) (A ++ [s_bn A t x]) (R + 1) m' ∧ Ex (b + 1) A.length R m m' ∧ Fl b 0 m m' := by
  obtain ⟨t1', t2', t3'⟩ := ht t (by simp)
  have bx := wf_tn hw hx
  have bt := wf_tn hw t2'
  obtain ⟨r, y, sg, bl, e, ⟨y1, y2, y3⟩, -⟩ := wf_tree hw ht
  have eh : n_head (a_g A t) = y := by rw [e]; rfl
  have es : n_sg (a_g A t) = sg := by rw [e]; rfl
  have eb : n_bl (a_g A t) = bl := by rw [e]; rfl
  have e1 : n_holds (a_g A t) = n_holds (a_g A y) + su A n_holds sg + su A n_holds bl := by rw [e]; rfl
  have e2 : n_deep (a_g A t) = max (n_deep (a_g A y)) (max (mx A n_deep sg) (mx A n_deep bl)) := by rw [e]; rfl
  unfold f_X2_linkBeside s_bn
  rw [ce_turn h t2', hp_b, ce_turn h hx, hp_b]
  by_cases c : tn A t < tn A x
  · rw [if_pos c]
    obtain ⟨m', g1, g2, g3, g4⟩ := c_beside59 (x := x) (hd := n_head (a_g A t)) (sn := x) h hw hR hA ht hx (by omega) (by
      rw [eh, es, eb]
      show _ = n_holds (a_g A y) + (n_holds (a_g A x) + su A n_holds sg) + su A n_holds bl
      omega) (by
      rw [eh, es, eb]
      show _ = max (n_deep (a_g A y)) (max (max (n_deep (a_g A x)) (mx A n_deep sg)) (mx A n_deep bl))
      omega)
    refine ⟨m', ?_, g2, g3, g4⟩
    rw [hp_lt_t (by omega) (by omega) (by omega)]
    unfold J_X2_linkBeside_24
    rw [hp_eq_f (by decide) (by decide) (by omega), ce_head h t2', hp_b]
    unfold J_X2_linkBeside_41
    rw [hp_eq_f (by decide) (by decide) (by omega)]
    exact g1
  · rw [if_neg c]
    obtain ⟨m', g1, g2, g3, g4⟩ := c_beside59 (x := x) (hd := x) (sn := n_head (a_g A t)) h hw hR hA ht hx hx (by
      rw [eh, es, eb]
      show _ = n_holds (a_g A x) + (n_holds (a_g A y) + su A n_holds sg) + su A n_holds bl
      omega) (by
      rw [eh, es, eb]
      show _ = max (n_deep (a_g A x)) (max (max (n_deep (a_g A y)) (mx A n_deep sg)) (mx A n_deep bl))
      omega)
    refine ⟨m', ?_, g2, g3, g4⟩
    rw [hp_lt_f (by omega) (by omega) (by omega)]
    unfold J_X2_linkBeside_24
    rw [hp_eq_t (by decide) (by decide) rfl]
    unfold J_X2_linkBeside_41
    rw [hp_eq_t (by decide) (by decide) rfl, ce_head h t2', hp_b]
    exact g1
/-- carry: from the loop's head on -/
theorem c_carryL {law b : Nat} : ∀ (q : List Nat) (n : Nat) {A : hA} {R t i : Nat} {k : Int} {m : hMem}, q.length < n → i + q.length < 64 → Ce (b + 1) A R m → Rw (b + 1) m R k q → Wf law A → Tl A [t] → Tl A q → Sx A q → (∀ x ∈ q, rk A t ≤ rk A x) → (jb A t ++ fm A n_jobs q).length ≤ 24 → R + (s_carry A t q).2.2 + 1 ≤ 2592 → A.length + (s_carry A t q).2.2 ≤ 864 →
    ∃ k' m', L_X2_carry_14 b n (t : Int) k (i : Int) m = some (k', m') ∧ Ce (b + 1) (s_carry A t q).1 (R + (s_carry A t q).2.2 + 1) m' ∧ Rw (b + 1) m' (R + (s_carry A t q).2.2 + 1) k' (s_carry A t q).2.1 ∧ Ex (b + 1) A.length R m m' ∧ Fl b ((s_carry A t q).2.2 : Int) m m'
  | [], n + 1, A, R, t, i, k, m, hn, hi, h, hk, hw, ht, hq, hs, hr, hl, hR, hA => by
    have hk0 : k = 0 := hk
    have hR : R + 0 + 1 ≤ 2592 := hR
    obtain ⟨m2, r1, r2, r3, r4, r5⟩ := ce_row (x := t) h (by omega) hk
    refine ⟨(R : Int), m2, ?_, r2, r3, r4, Fl.of_Fr r5⟩
    show B_X2_carry_14 b (L_X2_carry_14 b n) (t : Int) k (i : Int) m = _
    unfold B_X2_carry_14 J_X2_carry_88
    simp only [List.length_nil] at hi
    rw [hp_lt_t (by omega) (by omega) (by omega), hp_eq_t (by omega) (by decide) hk0, r1, hp_b]
    rfl
  | x :: q, n + 1, A, R, t, i, k, m, hn, hi, h, hk, hw, ht, hq, hs, hr, hl, hR, hA => by
    obtain ⟨hx, hq'⟩ := tl_cons.mp hq
    obtain ⟨t1, t2, t3⟩ := ht t (by simp)
    obtain ⟨x1, x2, x3⟩ := hx x (by simp)
    simp only [List.length_cons] at hn hi
    have hk0 : k ≠ 0 := fun e => by have := hk.nil_iff.mp e; cases this
    have hkl := hk.lt h.2.2.2.2.2.1
    have bx := wf_tn hw x2
    have bt := wf_tn hw t2
    have hf : f_X1_firstOf (b + 1) k m = some ((x : Int), m) := ce_first h hk
    have step : L_X2_carry_14 b (n + 1) (t : Int) k (i : Int) m = hv_lt (rk A t : Int) (rk A x : Int) (J_X2_carry_88 b (t : Int) k m) (hv_b (f_X2_link b (t : Int) (x : Int) m) (fun r9 m10 => hv_b (f_X1_restOf (b + 1) k m10) (fun r11 m12 => L_X2_carry_14 b n r9 r11 ((i : Int) + 1) m12))) := by
      show B_X2_carry_14 b (L_X2_carry_14 b n) (t : Int) k (i : Int) m = _
      unfold B_X2_carry_14
      rw [hp_lt_t (by omega) (by omega) (by omega), hp_eq_f (by omega) (by decide) (by omega), ce_rank h t2, hp_b, hf, hp_b, ce_rank h x2, hp_b, hf, hp_b]
      rfl
    rw [step]
    unfold s_carry at hR hA ⊢
    by_cases c : rk A t < rk A x
    · rw [if_pos c] at hR hA ⊢
      have hR : R + 0 + 1 ≤ 2592 := hR
      obtain ⟨m2, r1, r2, r3, r4, r5⟩ := ce_row (x := t) h (by omega) hk
      refine ⟨(R : Int), m2, ?_, r2, r3, r4, Fl.of_Fr r5⟩
      rw [hp_lt_t (by omega) (by omega) (by omega)]
      unfold J_X2_carry_88
      rw [r1, hp_b]
      rfl
    · rw [if_neg c] at hR hA ⊢
      have hrx : rk A t = rk A x := by have := hr x (by simp); omega
      have hl' : (jb A t ++ (jb A x ++ fm A n_jobs q)).length ≤ 24 := hl
      rw [List.length_append, List.length_append] at hl'
      obtain ⟨k1, k2, k3, k4, k5, k6⟩ := link_ok hw ht hx hrx (by omega)
      have hR : R + ((s_carry (s_link A t x) A.length q).2.2 + 1) + 1 ≤ 2592 := hR
      have hA : A.length + ((s_carry (s_link A t x) A.length q).2.2 + 1) ≤ 864 := hA
      obtain ⟨m1, g1, g2, g3, g4⟩ := c_link (b := b) h hw (by omega) (by omega) ht hx
      have hsq := (List.pairwise_cons.mp hs)
      have hfm := fm_px k2 n_jobs hq'.al
      have hlen := k5.length_eq
      rw [List.length_append] at hlen
      obtain ⟨kr, q1, q2⟩ := ce_rest g2 (Rw.ex g3 (by omega) hk)
      obtain ⟨k', m', p1, p2, p3, p4, p5⟩ := c_carryL (law := law) (b := b) q n (A := s_link A t x) (R := R + 1) (t := A.length) (i := i + 1) (k := kr) (m := m1) (by omega) (by omega) g2 q2 k1 k3 (hq'.px k2) ((sx_px k2 hq'.al).mpr hsq.2) (fun y hy => by
        rw [k4, rk_px k2 (hq' y hy).2.1, hrx]
        exact hsq.1 y hy) (by rw [List.length_append, hfm]; omega) (by omega) (by omega)
      refine ⟨k', m', ?_, ?_, ?_, g3.trans p4 (by omega) (by omega), (g4.trans p5).cast ?_⟩
      · rw [hp_lt_f (by omega) (by omega) (by omega), g1, hp_b, q1, hp_b]
        exact p1
      · rw [show R + ((s_carry (s_link A t x) A.length q).2.2 + 1) + 1 = R + 1 + (s_carry (s_link A t x) A.length q).2.2 + 1 by omega]
        exact p2
      · rw [show R + ((s_carry (s_link A t x) A.length q).2.2 + 1) + 1 = R + 1 + (s_carry (s_link A t x) A.length q).2.2 + 1 by omega]
        exact p3
      · show (1 : Int) + ((s_carry (s_link A t x) A.length q).2.2 : Int) = (((s_carry (s_link A t x) A.length q).2.2 + 1 : Nat) : Int)
        omega
  | [], 0, _, _, _, _, _, _, hn, _, _, _, _, _, _, _, _, _, _, _ => by simp at hn
  | x :: q, 0, _, _, _, _, _, _, hn, _, _, _, _, _, _, _, _, _, _, _ => by simp at hn
