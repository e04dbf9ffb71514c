/-! the class's heaps: take, join -/
theorem Fa.b0 {b : Nat} {n : Int} {m m' : hMem} (h : Fa b n m m') {j : Nat} (hj : j ≠ 8) : m' b j = m b j := h.2.1 j hj
theorem c_putsL {law b : Nat} (hlaw : law = 0 ∨ law = 1) (o : Int) : ∀ (hs : List Nat) (n i : Nat) {A : hA} {R : Nat} {q : List Nat} {k ks : Int} {m : hMem}, hs.length < n → i + hs.length < 64 → Ce (b + 1) A R m → Rw (b + 1) m R k q → Rw (b + 1) m R ks hs → Wf law A → m b 0 = (law : Int) → Hl A hs → Tl A q → Qk law A q → (fm A n_jobs hs ++ fm A n_jobs q).length ≤ 24 → R + 8 + q.length + 4 * hs.length ≤ 2592 → A.length + 2 + q.length + 2 * hs.length ≤ 864 →
    ∃ k' m' R', L_X2_take_58 b n o k ks (i : Int) m = J_X2_take_104 b o k' m' ∧ R ≤ R' ∧ (law = 0 → R' ≤ R + 3 * hs.length) ∧ (law = 1 → R' ≤ R + hs.length + (s_puts law A hs q).2.2) ∧ Ce (b + 1) (s_puts law A hs q).1 R' m' ∧ Rw (b + 1) m' R' k' (s_puts law A hs q).2.1 ∧ Ex (b + 1) A.length R m m' ∧ Fl b ((s_puts law A hs q).2.2 : Int) m m'
  | _, 0, _, _, _, _, _, _, _, hn, _, _, _, _, _, _, _, _, _, _, _, _ => by omega
  | [], n + 1, i, A, R, q, k, ks, m, hn, hi, h, hk, hks, hw, hb, hh, hq, hkk, hl, hR, hAl => by
    have hk0 : ks = 0 := hks
    refine ⟨k, m, R, ?_, Nat.le_refl _, fun _ => by omega, fun _ => by omega, h, hk, Ex.refl _ _ _ _, Fl.refl _ _⟩
    show B_X2_take_58 b (L_X2_take_58 b n) o k ks (i : Int) m = _
    unfold B_X2_take_58
    simp only [List.length_nil] at hi
    rw [hp_lt_t (by omega) (by omega) (by omega), hp_eq_t (by omega) (by decide) hk0]
  | x :: hs, n + 1, i, A, R, q, k, ks, m, hn, hi, h, hk, hks, hw, hb, hh, hq, hkk, hl, hR, hAl => by
    simp only [List.length_cons] at hn hi hR hAl
    obtain ⟨hx, hh'⟩ := hl_cons.mp hh
    have hk0 : ks ≠ 0 := fun e => by have := hks.nil_iff.mp e; cases this
    have hkl := hks.lt h.2.2.2.2.2.1
    have hf : f_X1_firstOf (b + 1) ks m = some ((x : Int), m) := ce_first h hks
    have hl' : ((jb A x ++ fm A n_jobs hs) ++ fm A n_jobs q).length ≤ 24 := hl
    simp only [List.length_append] at hl'
    have hl2 : (jb A x ++ fm A n_jobs q).length ≤ 24 := by rw [List.length_append]; omega
    obtain ⟨p1, p2, p3, p4, p5, p6, p7⟩ := put_ok hw hx hq hkk hl2 hlaw
    obtain ⟨k1, m1, R1, a1, a2, a3, a4, a5, a6, a7, a8⟩ := c_put (b := b) h hk hw hlaw hb hx hq hkk hl2 (by omega) (by omega)
    obtain ⟨kr, r1, r2⟩ := ce_rest a5 (Rw.ex a8 a2 hks)
    have r2 : Rw (b + 1) m1 R1 kr hs := r2
    have f1 := fm_px p2 n_jobs hh'.al
    have pl := p5.length_eq
    rw [List.length_append] at pl
    have R1le : R1 ≤ R + 3 + (s_put law A x q).2.2 := by
      rcases hlaw with e | e
      · have := a3 e; omega
      · have := a4 e; omega
    have R1b : R1 + (s_put law A x q).2.1.length ≤ R + q.length + 4 := by
      rcases hlaw with e | e
      · have := a3 e; omega
      · have := a4 e; omega
    obtain ⟨k', m', R', g1, g2, g3, g4, g5, g6, g7, g8⟩ := c_putsL hlaw o hs n (i + 1) (A := (s_put law A x q).1) (R := R1) (q := (s_put law A x q).2.1) (k := k1) (ks := kr) (m := m1) (by omega) (by omega) a5 a6 r2 p1 (by rw [a7.2.1 0 (by omega)]; exact hb) (hh'.px p2) p3 p4 (by rw [f1, List.length_append]; omega) (by omega) (by omega)
    refine ⟨k', m', R', ?_, by omega, fun e => ?_, fun e => ?_, g5, g6, a8.trans g7 (by omega) a2, (a7.trans g8).cast ?_⟩
    · show B_X2_take_58 b (L_X2_take_58 b n) o k ks (i : Int) m = _
      unfold B_X2_take_58
      rw [hp_lt_t (by omega) (by omega) (by omega), hp_eq_f (by omega) (by decide) (by omega), hf, hp_b, a1, hp_b, r1, hp_b, hp_set]
      exact g1
    · have := g3 e; have := a3 e; simp only [List.length_cons]; omega
    · have := g4 e; have := a4 e
      show R' ≤ R + (x :: hs).length + ((s_put law A x q).2.2 + (s_puts law (s_put law A x q).1 hs (s_put law A x q).2.1).2.2)
      simp only [List.length_cons]; omega
    · show ((s_put law A x q).2.2 : Int) + ((s_puts law (s_put law A x q).1 hs (s_put law A x q).2.1).2.2 : Int) = (((s_put law A x q).2.2 + (s_puts law (s_put law A x q).1 hs (s_put law A x q).2.1).2.2 : Nat) : Int)
      omega
theorem heap_q {law : Nat} {A : hA} (h : Wf law A) {x : Nat} (hx : Hl A [x]) : Tl A (n_bl (a_g A x)) ∧ Qk law A (n_bl (a_g A x)) ∧ (fm A n_jobs (n_bl (a_g A x))).length ≤ 23 ∧ a_g A x = mkH A x (tn A x) (n_bl (a_g A x)) ∧ (∀ z ∈ n_bl (a_g A x), tn A x ≤ tn A z) ∧ tn A x < 30000 := by
  obtain ⟨t, q, e, hz, hk, ht⟩ := wf_heap h hx
  obtain ⟨x1, x2, x3⟩ := hx x (by simp)
  have eb : n_bl (a_g A x) = q := by rw [e]; rfl
  have et : tn A x = t := by rw [tn, e]; rfl
  have hq : Tl A q := fun z hzq => ⟨(hz z hzq).1, by have := (hz z hzq).2.1; omega, (hz z hzq).2.2.1⟩
  have hc := (h.2.2 x x1 x2).2.1
  have hl := wf_len h hq.al
  rw [e] at hc
  have hc : 1 + su A n_holds q ≤ 24 := hc
  rw [eb, et]
  exact ⟨hq, hk, by omega, e, fun z hzq => (hz z hzq).2.2.2, ht⟩
theorem deep_ok {law : Nat} {A : hA} (h : Wf law A) {q : List Nat} (hq : Tl A q) : ∀ x ∈ q, x < A.length ∧ n_deep (a_g A x) ≤ 100000 := fun x hx => by
  have := wf_tn h (hq x hx).2.1
  exact ⟨(hq x hx).2.1, by omega⟩
theorem fm_len24 {law : Nat} {A : hA} (h : Wf law A) {q : List Nat} (hq : Tl A q) (hl : (fm A n_jobs q).length ≤ 24) : q.length ≤ 24 := Nat.le_trans (fm_len h hq.al) hl
theorem s_take_cons {law : Nat} {A : hA} {h x : Nat} {q : List Nat} (e : n_bl (a_g A h) = x :: q) : s_take law A h =
    ((s_merge (s_puts law (s_merge A (n_bl (a_g A (s_least A x q))).reverse (s_but (s_least A x q) (x :: q))).1 (n_sg (a_g A (s_least A x q))) (s_merge A (n_bl (a_g A (s_least A x q))).reverse (s_but (s_least A x q) (x :: q))).2.1).1 (n_bl (a_g A (n_head (a_g A (s_least A x q))))) (s_puts law (s_merge A (n_bl (a_g A (s_least A x q))).reverse (s_but (s_least A x q) (x :: q))).1 (n_sg (a_g A (s_least A x q))) (s_merge A (n_bl (a_g A (s_least A x q))).reverse (s_but (s_least A x q) (x :: q))).2.1).2.1).1 ++ [mkH (s_merge (s_puts law (s_merge A (n_bl (a_g A (s_least A x q))).reverse (s_but (s_least A x q) (x :: q))).1 (n_sg (a_g A (s_least A x q))) (s_merge A (n_bl (a_g A (s_least A x q))).reverse (s_but (s_least A x q) (x :: q))).2.1).1 (n_bl (a_g A (n_head (a_g A (s_least A x q))))) (s_puts law (s_merge A (n_bl (a_g A (s_least A x q))).reverse (s_but (s_least A x q) (x :: q))).1 (n_sg (a_g A (s_least A x q))) (s_merge A (n_bl (a_g A (s_least A x q))).reverse (s_but (s_least A x q) (x :: q))).2.1).2.1).1 (s_merge (s_puts law (s_merge A (n_bl (a_g A (s_least A x q))).reverse (s_but (s_least A x q) (x :: q))).1 (n_sg (a_g A (s_least A x q))) (s_merge A (n_bl (a_g A (s_least A x q))).reverse (s_but (s_least A x q) (x :: q))).2.1).1 (n_bl (a_g A (n_head (a_g A (s_least A x q))))) (s_puts law (s_merge A (n_bl (a_g A (s_least A x q))).reverse (s_but (s_least A x q) (x :: q))).1 (n_sg (a_g A (s_least A x q))) (s_merge A (n_bl (a_g A (s_least A x q))).reverse (s_but (s_least A x q) (x :: q))).2.1).2.1).1.length (tn A (s_least A x q)) (s_merge (s_puts law (s_merge A (n_bl (a_g A (s_least A x q))).reverse (s_but (s_least A x q) (x :: q))).1 (n_sg (a_g A (s_least A x q))) (s_merge A (n_bl (a_g A (s_least A x q))).reverse (s_but (s_least A x q) (x :: q))).2.1).1 (n_bl (a_g A (n_head (a_g A (s_least A x q))))) (s_puts law (s_merge A (n_bl (a_g A (s_least A x q))).reverse (s_but (s_least A x q) (x :: q))).1 (n_sg (a_g A (s_least A x q))) (s_merge A (n_bl (a_g A (s_least A x q))).reverse (s_but (s_least A x q) (x :: q))).2.1).2.1).2.1],
    (s_merge (s_puts law (s_merge A (n_bl (a_g A (s_least A x q))).reverse (s_but (s_least A x q) (x :: q))).1 (n_sg (a_g A (s_least A x q))) (s_merge A (n_bl (a_g A (s_least A x q))).reverse (s_but (s_least A x q) (x :: q))).2.1).1 (n_bl (a_g A (n_head (a_g A (s_least A x q))))) (s_puts law (s_merge A (n_bl (a_g A (s_least A x q))).reverse (s_but (s_least A x q) (x :: q))).1 (n_sg (a_g A (s_least A x q))) (s_merge A (n_bl (a_g A (s_least A x q))).reverse (s_but (s_least A x q) (x :: q))).2.1).2.1).1.length,
    (s_merge A (n_bl (a_g A (s_least A x q))).reverse (s_but (s_least A x q) (x :: q))).2.2 + (s_puts law (s_merge A (n_bl (a_g A (s_least A x q))).reverse (s_but (s_least A x q) (x :: q))).1 (n_sg (a_g A (s_least A x q))) (s_merge A (n_bl (a_g A (s_least A x q))).reverse (s_but (s_least A x q) (x :: q))).2.1).2.2 + (s_merge (s_puts law (s_merge A (n_bl (a_g A (s_least A x q))).reverse (s_but (s_least A x q) (x :: q))).1 (n_sg (a_g A (s_least A x q))) (s_merge A (n_bl (a_g A (s_least A x q))).reverse (s_but (s_least A x q) (x :: q))).2.1).1 (n_bl (a_g A (n_head (a_g A (s_least A x q))))) (s_puts law (s_merge A (n_bl (a_g A (s_least A x q))).reverse (s_but (s_least A x q) (x :: q))).1 (n_sg (a_g A (s_least A x q))) (s_merge A (n_bl (a_g A (s_least A x q))).reverse (s_but (s_least A x q) (x :: q))).2.1).2.1).2.2) := by
  unfold s_take
  rw [e]
theorem c_take {law b : Nat} {A : hA} {R h : Nat} {m : hMem} (hc : Ce (b + 1) A R m) (hw : Wf law A) (hlaw : law = 0 ∨ law = 1) (hb : m b 0 = (law : Int)) (hh : Hl A [h] ∨ h = 0) (hR : R + 60 ≤ 2592) (hAl : A.length + 24 ≤ 864) :
    ∃ m' R', f_X2_take b (h : Int) m = some (((s_take law A h).2.1 : Int), m') ∧ R ≤ R' ∧ R' ≤ R + 46 ∧ Ce (b + 1) (s_take law A h).1 R' m' ∧ Ex (b + 1) A.length R m m' ∧ Fa b ((s_take law A h).2.2 : Int) m m' := by
  have hlt : h < A.length := by
    rcases hh with hh | hh
    · exact (hh h (by simp)).2.1
    · have := hw.1; omega
  obtain ⟨k, b1, b2⟩ := ce_below hc hlt
  cases e : n_bl (a_g A h) with
  | nil =>
    rw [e] at b2
    have k0 : k = 0 := b2
    have es : s_take law A h = (A, 0, 0) := by unfold s_take; rw [e]
    rw [es]
    refine ⟨m, R, ?_, Nat.le_refl _, by omega, hc, Ex.refl _ _ _ _, Fa.refl _ _⟩
    unfold f_X2_take
    rw [b1, hp_b, hp_eq_t (by omega) (by decide) k0]
    rfl
  | cons x q =>
    have hH : Hl A [h] := by
      rcases hh with hh | hh
      · exact hh
      · rw [hh, hw.2.1] at e; cases e
    rw [e] at b2
    have hk0 : k ≠ 0 := fun e => by have := b2.nil_iff.mp e; cases this
    have hkl := b2.lt hc.2.2.2.2.2.1
    obtain ⟨hq, hkk, hl, -, -, -⟩ := heap_q hw hH
    rw [e] at hq hkk hl
    have ql := fm_len hw hq.al
    simp only [List.length_cons] at ql
    have tk := take_ok hw hlaw hq hkk hl
    have tp : Tk law A (s_least A x q) (x :: q) := take_pieces hw hq hkk hl
    rw [s_take_cons e]
    obtain ⟨o, ho⟩ : ∃ o, o = s_least A x q := ⟨_, rfl⟩
    have om : o ∈ x :: q := by rw [ho]; exact least_mem q x
    rw [← ho] at tk tp ⊢
    obtain ⟨g1, hg1⟩ : ∃ g1, g1 = s_merge A (n_bl (a_g A o)).reverse (s_but o (x :: q)) := ⟨_, rfl⟩
    simp only [← hg1] at tk ⊢
    obtain ⟨g2, hg2⟩ : ∃ g2, g2 = s_puts law g1.1 (n_sg (a_g A o)) g1.2.1 := ⟨_, rfl⟩
    simp only [← hg2] at tk ⊢
    obtain ⟨g3, hg3⟩ : ∃ g3, g3 = s_merge g2.1 (n_bl (a_g A (n_head (a_g A o)))) g2.2.1 := ⟨_, rfl⟩
    simp only [← hg3] at tk ⊢
    obtain ⟨⟨w1, p1, t1, s1, -, j1, len1, len1', -⟩, w2, p2, t2, kk2, w3, p3, t3, s3, tnn, -⟩ := tk
    obtain ⟨r, s, hd, kb, t, er, es, eh, ek, et, n1, n2, n3, n4, n5, n6, n7, n8, n9, n10, n11, n12⟩ := tnn
    obtain ⟨y, sg, bl, qy, ey, esg, eb, eqy, ety, h3, hO, hY, hS, hB, hT, hbut, hrev, hky, hw1, hw2, hp, hsr, hnum, hlen, hge⟩ := tp
    have ol := (hO o (by simp)).2.1
    have pl := hp.length_eq
    rw [List.length_cons] at pl
    simp only [List.length_append] at pl
    -- turned
    obtain ⟨kb1, c1, c2⟩ := ce_below hc ol
    rw [eb] at c2 er hg1
    obtain ⟨kt, m1, d1, d2, d3, d4, d5⟩ := c_turnedL (b := b) bl hv_FU 0 R [] 0 kb1 m (fu_lt (by omega)) (by omega) hc c2 rfl (by omega)
    rw [List.append_nil] at d3
    -- all but
    obtain ⟨ka, m2, R2, e1, e2, e3, e4, e5, e6, e7⟩ := c_butL (b := b) ol hw (x :: q) hv_FU [] k m1 (fu_lt (by simp only [List.length_cons]; omega)) (by simp only [List.length_cons, List.length_nil]; omega) d2 trivial (Rw.ex d4 (by omega) b2) om (fun z hz => (hq z hz).2.1) (by simp only [List.length_cons, List.length_nil]; omega)
    simp only [List.length_cons, List.length_nil] at e3 hlen
    have e5 : Rw (b + 1) m2 R2 ka (s_but o (x :: q)) := e5
    have hE2 := d4.trans e6 (Nat.le_refl _) (by omega)
    -- merge
    have hB' : Tl A bl.reverse := fun z hz => hB z (List.mem_reverse.mp hz)
    have hrl : bl.reverse.length = bl.length := List.length_reverse
    obtain ⟨km, m3, R3, f1, f2, f3, f4, f5, f6, f7⟩ := c_merge (b := b) e4 (Rw.ex e6 e2 d3) e5 hw hB' hbut hrev.tail (fun a b l e => by
      rw [e] at hrev
      exact Nat.le_of_lt ((List.pairwise_cons.mp hrev).1 b (by simp))) hw1 hw2 (by rw [List.length_append]; omega) (by omega) (by omega) (by omega)
    rw [← hg1] at f4 f5 f7
    -- puts
    have ol3 : o < g1.1.length := by have := p1.len; omega
    have ag : a_g g1.1 o = a_g A o := p1.g ol
    obtain ⟨ks, i1, i2⟩ := ce_singles f4 ol3
    rw [ag, esg] at i2
    rw [esg] at hg2 es
    have fS := fm_px p1 n_jobs hS.al
    have l1 := j1.length_eq
    rw [List.length_append] at l1
    rw [eb] at l1 len1'
    have g1b : m3 b 0 = (law : Int) := by rw [f7.b0 (by omega), e7.b0 (by omega), d5.fa.b0 (by omega)]; exact hb
    obtain ⟨kp, m4, R4, u1, u2, u3, u4, u5, u6, u7, u8⟩ := c_putsL (b := b) hlaw (o : Int) sg hv_FU 0 (fu_lt (by omega)) (by omega) f4 f5 i2 w1 g1b (hS.px p1) t1 (Qk.of_sx s1) (by rw [fS, List.length_append]; omega) (by omega) (by omega)
    rw [← hg2] at u4 u5 u6 u8
    -- the second merge
    have p12 := p1.trans p2
    have yl := (hY y (by simp)).2.1
    have ol4 : o < g2.1.length := by have := p12.len; omega
    have yl4 : y < g2.1.length := by have := p12.len; omega
    have hd4 : n_head (a_g g2.1 o) = y := by rw [p12.g ol]; exact ey
    obtain ⟨kq, v1, v2⟩ := ce_below u5 yl4
    rw [p12.g yl, eqy] at v2
    rw [ey, eqy] at hg3 eh
    have hky2 := qk_px p12 hT.al hky
    have fT := fm_px p12 n_jobs hT.al
    have po := puts_ok hlaw sg w1 (hS.px p1) t1 (Qk.of_sx s1) (by rw [fS, List.length_append]; omega)
    rw [← hg2] at po
    obtain ⟨-, -, -, -, o5, o6, o7⟩ := po
    have l2 := o5.length_eq
    rw [fS, List.length_append] at l2
    have R4le : R4 + 2 * hd + 2 * t ≤ R + 46 := by
      rcases hlaw with e | e
      · have := u3 e; omega
      · have := u4 e; omega
    obtain ⟨km2, m5, R5, x1, x2, x3, x4, x5, x6, x7⟩ := c_merge (b := b) u5 v2 u6 w2 (hT.px p12) t2 hky2.2.1 hky2.2.2 kk2.2.1 kk2.2.2 (by rw [fT, List.length_append]; omega) (by omega) (by omega) (by omega)
    rw [← hg3] at x4 x5 x7
    obtain ⟨m6, y1, y2, y3, y4⟩ := ce_heap (t := tn A o) x4 (by omega) x5 (deep_ok w3 t3) (by omega)
    have hEall := ((hE2.trans f6 (Nat.le_refl _) (by omega)).trans u7 (by have := p1.len; omega) (by omega)).trans x6 (by have := p12.len; omega) (by omega)
    refine ⟨m6, R5, ?_, by omega, by omega, y2, hEall.trans y3 (by have := p12.len; have := p3.len; omega) (by omega), ((((((d5.fa).trans e7).trans f7).trans u8.fa).trans x7).trans (Fl.of_Fr y4).fa).cast ?_⟩
    · unfold f_X2_take
      rw [b1, hp_b, hp_eq_f (by omega) (by decide) (by omega), c_least hc hw b2 (fun z hz => (hq z hz).2.1) (by omega), hp_b, ← ho, c1, hp_b]
      have T : f_X2_turned b kb1 m = some (kt, m1) := d1
      have B : f_X2_allBut b k (o : Int) m1 = some (ka, m2) := e1
      rw [T, hp_b, B, hp_b, f1, hp_b, i1, hp_b]
      refine Eq.trans u1 ?_
      unfold J_X2_take_104
      rw [ce_head u5 ol4, hp_b, hd4, ce_turn u5 yl4, hp_b, v1, hp_b, x1, hp_b]
      rw [tn_px p12 yl, ← ety, y1, hp_b]
      rfl
    · show 0 + 0 + (g1.2.2 : Int) + (g2.2.2 : Int) + (g3.2.2 : Int) + 0 = ((g1.2.2 + g2.2.2 + g3.2.2 : Nat) : Int)
      omega
theorem c_join {law b : Nat} {A : hA} {R x y : Nat} {m : hMem} (hc : Ce (b + 1) A R m) (hw : Wf law A) (hlaw : law = 0 ∨ law = 1) (hb : m b 0 = (law : Int)) (hx : Hl A [x] ∨ x = 0) (hy : Hl A [y] ∨ y = 0) (hl : (jb A x).length + (jb A y).length ≤ 24) (hR : R + 60 ≤ 2592) (hAl : A.length + 24 ≤ 864) :
    ∃ m' R', f_X2_join b (x : Int) (y : Int) m = some (((s_join law A x y).2.1 : Int), m') ∧ R ≤ R' ∧ R' ≤ R + 10 ∧ Ce (b + 1) (s_join law A x y).1 R' m' ∧ Ex (b + 1) A.length R m m' ∧ Fl b ((s_join law A x y).2.2 : Int) m m' ∧ (s_join law A x y).1.length ≤ A.length + 10 := by
  have hAl' := hc.lt
  have xl : x < A.length := by
    rcases hx with hx | hx
    · exact (hx x (by simp)).2.1
    · have := hw.1; omega
  have yl : y < A.length := by
    rcases hy with hy | hy
    · exact (hy y (by simp)).2.1
    · have := hw.1; omega
  by_cases x0 : x = 0
  · refine ⟨m, R, ?_, Nat.le_refl _, by omega, ?_, Ex.refl _ _ _ _, ?_, ?_⟩
    · unfold f_X2_join s_join
      rw [hp_eq_t (by omega) (by decide) (by omega), if_pos x0]; rfl
    · unfold s_join; rw [if_pos x0]; exact hc
    · unfold s_join; rw [if_pos x0]; exact Fl.refl _ _
    · unfold s_join; rw [if_pos x0]; show A.length ≤ _; omega
  by_cases y0 : y = 0
  · refine ⟨m, R, ?_, Nat.le_refl _, by omega, ?_, Ex.refl _ _ _ _, ?_, ?_⟩
    · unfold f_X2_join s_join
      rw [hp_eq_f (by omega) (by decide) (by omega), hp_eq_t (by omega) (by decide) (by omega), if_neg x0, if_pos y0]; rfl
    · unfold s_join; rw [if_neg x0, if_pos y0]; exact hc
    · unfold s_join; rw [if_neg x0, if_pos y0]; exact Fl.refl _ _
    · unfold s_join; rw [if_neg x0, if_pos y0]; show A.length ≤ _; omega
  have hx : Hl A [x] := hx.resolve_right x0
  have hy : Hl A [y] := hy.resolve_right y0
  have key : ∀ u d, Hl A [u] → Hl A [d] → (jb A u).length + (jb A d).length ≤ 24 →
      ∃ k kk m1 m' R', f_X1_belowOf (b + 1) (u : Int) m = some (k, m) ∧ f_X2_putInto b (d : Int) k m = some (kk, m1) ∧ f_X1_heap (b + 1) (tn A u : Int) kk m1 = some (((s_put law A d (n_bl (a_g A u))).1.length : Int), m') ∧ R ≤ R' ∧ R' ≤ R + 10 ∧ Ce (b + 1) ((s_put law A d (n_bl (a_g A u))).1 ++ [mkH (s_put law A d (n_bl (a_g A u))).1 (s_put law A d (n_bl (a_g A u))).1.length (tn A u) (s_put law A d (n_bl (a_g A u))).2.1]) R' m' ∧ Ex (b + 1) A.length R m m' ∧ Fl b ((s_put law A d (n_bl (a_g A u))).2.2 : Int) m m' ∧ (s_put law A d (n_bl (a_g A u))).1.length + 1 ≤ A.length + 10 := by
    intro u d hu hd hud
    obtain ⟨u1, u2, u3⟩ := hu u (by simp)
    obtain ⟨hq, hkk, hl23, e, -, -⟩ := heap_q hw hu
    have ju : jb A u = tn A u :: fm A n_jobs (n_bl (a_g A u)) := by rw [jb]; exact (congrArg n_jobs e).trans rfl
    have jul : (jb A u).length = (fm A n_jobs (n_bl (a_g A u))).length + 1 := by rw [ju, List.length_cons]
    have zs := szq_lt (Nat.le_trans (wk_size hw hq hkk.2.1) hl23)
    obtain ⟨k, b1, b2⟩ := ce_below hc u2
    have hl2 : (jb A d ++ fm A n_jobs (n_bl (a_g A u))).length ≤ 24 := by rw [List.length_append]; omega
    obtain ⟨p1, p2, p3, p4, p5, p6, p7⟩ := put_ok hw hd hq hkk hl2 hlaw
    obtain ⟨kk, m1, R1, a1, a2, a3, a4, a5, a6, a7, a8⟩ := c_put (b := b) hc b2 hw hlaw hb hd hq hkk hl2 (by omega) (by omega)
    obtain ⟨m', y1, y2, y3, y4⟩ := ce_heap (t := tn A u) a5 (by omega) a6 (deep_ok p1 p3) (by omega)
    refine ⟨k, kk, m1, m', R1, b1, a1, y1, a2, ?_, y2, a8.trans y3 (by omega) a2, (a7.trans (Fl.of_Fr y4)).cast (by omega), by omega⟩
    rcases hlaw with e | e
    · have := a3 e; omega
    · have := a4 e; omega
  have bx := wf_tn hw xl
  have by' := wf_tn hw yl
  by_cases c : tn A y < tn A x
  · obtain ⟨k, kk, m1, m', R', a1, a2, a3, a4, a5, a6, a7, a8, a9⟩ := key y x hy hx (by omega)
    have es : s_join law A x y = ((s_put law A x (n_bl (a_g A y))).1 ++ [mkH (s_put law A x (n_bl (a_g A y))).1 (s_put law A x (n_bl (a_g A y))).1.length (tn A y) (s_put law A x (n_bl (a_g A y))).2.1], (s_put law A x (n_bl (a_g A y))).1.length, (s_put law A x (n_bl (a_g A y))).2.2) := by
      unfold s_join
      rw [if_neg x0, if_neg y0]
      simp only [if_pos c]
    rw [es]
    refine ⟨m', R', ?_, a4, a5, a6, a7, a8, by rw [List.length_append]; exact a9⟩
    unfold f_X2_join
    rw [hp_eq_f (by omega) (by decide) (by omega), hp_eq_f (by omega) (by decide) (by omega), ce_turn hc yl, hp_b, ce_turn hc xl, hp_b, hp_lt_t (by omega) (by omega) (by omega), ce_turn hc yl, hp_b, a1, hp_b, a2, hp_b, a3, hp_b]
    rfl
  · obtain ⟨k, kk, m1, m', R', a1, a2, a3, a4, a5, a6, a7, a8, a9⟩ := key x y hx hy hl
    have es : s_join law A x y = ((s_put law A y (n_bl (a_g A x))).1 ++ [mkH (s_put law A y (n_bl (a_g A x))).1 (s_put law A y (n_bl (a_g A x))).1.length (tn A x) (s_put law A y (n_bl (a_g A x))).2.1], (s_put law A y (n_bl (a_g A x))).1.length, (s_put law A y (n_bl (a_g A x))).2.2) := by
      unfold s_join
      rw [if_neg x0, if_neg y0]
      simp only [if_neg c]
    rw [es]
    refine ⟨m', R', ?_, a4, a5, a6, a7, a8, by rw [List.length_append]; exact a9⟩
    unfold f_X2_join
    rw [hp_eq_f (by omega) (by decide) (by omega), hp_eq_f (by omega) (by decide) (by omega), ce_turn hc yl, hp_b, ce_turn hc xl, hp_b, hp_lt_f (by omega) (by omega) (by omega), ce_turn hc xl, hp_b, a1, hp_b, a2, hp_b, a3, hp_b]
    rfl
