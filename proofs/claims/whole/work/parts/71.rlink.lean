/-! the reference's heaps: link, carry -/
def No (_ : Nat) : Prop := False
theorem Gx.pre {P : Nat → Prop} {n1 n2 : Int} {m1 m2 m3 : hMem} {G1 G2 G3 : hG} (h1 : Gx No n1 m1 G1 m2 G2) (h2 : Gx P n2 m2 G2 m3 G3) : Gx P (n1 + n2) m1 G1 m3 G3 :=
  h1.trans h2 (fun x p _ => p) (fun x p => p.elim (fun q => False.elim q) id)
theorem Gx.post {P : Nat → Prop} {n1 n2 : Int} {m1 m2 m3 : hMem} {G1 G2 G3 : hG} (h1 : Gx P n1 m1 G1 m2 G2) (h2 : Gx No n2 m2 G2 m3 G3) : Gx P (n1 + n2) m1 G1 m3 G3 :=
  h1.trans h2 (fun x _ p => p) (fun x p => p.elim id (fun q => False.elim q))
theorem gx_22 {m m' : hMem} {G : hG} {n : Int} (e : m' = hv_up m 65 22 (m 65 22 + n)) (P : Nat → Prop) : Gx P n m G m' G := by
  refine ⟨fun j _ => ?_, Nat.le_refl _, ⟨[], by simp, List.nodup_nil, fun x hx => by simp at hx⟩, ⟨[], by simp, List.nodup_nil, fun x hx => by simp at hx⟩, fun k a _ => by rw [e, hp_up_kk _ _ _ a], fun j _ _ _ a => by rw [e, hp_up_j _ _ _ a], by rw [e, hp_up_same]⟩
  rw [e, hp_up_k _ _ _ _ (by omega), hp_up_k _ _ _ _ (by omega)]
  exact ⟨rfl, rfl⟩
section
variable {law : Nat} {A B : hA} {vs : List hVr} {G : hG} {m : hMem}
theorem r_link {x y i j : Nat} (h : Rel B vs G m) (hw : Wf law A) (hx : Tl A [x]) (hy : Tl A [y]) (hr : rk A x = rk A y) (hp : Px (s_link A x y) B) (hi : (g_T G)[i]? = some x) (hj : (g_T G)[j]? = some y) (hT : (g_T G).length < 8000) (hL : g_L G < 40000) :
    ∃ m', f_X11_link (i : Int) (j : Int) m = some (((g_T G).length : Int), m') ∧ Rel B vs (g_H G, g_T G ++ [A.length], g_L G + 1) m' ∧ Gx (In A.length (A.length + 1)) 1 m G m' (g_H G, g_T G ++ [A.length], g_L G + 1) := by
  have pA : Px A B := (Px.snoc A (s_ln A x y)).trans hp
  obtain ⟨x0, xl, xd⟩ := hx x (by simp)
  obtain ⟨y0, yl, yd⟩ := hy y (by simp)
  have sl : (s_link A x y).length = A.length + 1 := by unfold s_link; rw [List.length_append]; rfl
  have zl : A.length < B.length := by have := hp.len; omega
  have zg : a_g B A.length = s_ln A x y := by rw [hp.g (by omega)]; exact a_g_new
  obtain ⟨m1, em1⟩ : ∃ m1 : hMem, m1 = hv_up m 65 22 (m 65 22 + 1) := ⟨_, rfl⟩
  have R1 : Rel B vs G m1 := h.up22 (fun k hk => by rw [em1, hp_up_kk _ _ _ hk]) (fun j hj => by rw [em1, hp_up_j _ _ _ (by omega)])
  have i8 := h.t8 hi
  have j8 := h.t8 hj
  obtain ⟨-, -, -, x71, ⟨ix, x72, xH⟩, xt, -, -⟩ := R1.2.2.2.2.2.2.2 i x hi
  obtain ⟨-, -, -, y71, ⟨iy, y72, yH⟩, yt, -, -⟩ := R1.2.2.2.2.2.2.2 j y hj
  have key : ∀ (iu jd u d : Nat), (g_T G)[iu]? = some u → (g_T G)[jd]? = some d → Tl A [u] → s_ln A x y = mkT A A.length (rk A u + 1) (n_head (a_g A u)) (n_sg (a_g A u)) (d :: n_bl (a_g A u)) →
      ∃ m', J_X11_link_71 (iu : Int) ((rk A u : Int) + 1) (m1 72 iu) (m1 73 iu) (jd : Int) m1 = some (((g_T G).length : Int), m') ∧ Rel B vs (g_H G, g_T G ++ [A.length], g_L G + 1) m' ∧ Gx (In A.length (A.length + 1)) 0 m1 G m' (g_H G, g_T G ++ [A.length], g_L G + 1) := by
    intro iu jd u d hu hd hTu es
    obtain ⟨u0, ul, ud⟩ := hTu u (by simp)
    have iu8 := h.t8 hu
    obtain ⟨-, -, -, -, ⟨hh, u72, uH⟩, ut, us, ub⟩ := R1.2.2.2.2.2.2.2 iu u hu
    have ug : a_g B u = a_g A u := pA.g ul
    rw [ug] at uH us ub ut
    obtain ⟨r, yy, sg, bl, eu, ⟨yy1, yy2, yy3⟩, -⟩ := wf_tree hw hTu
    have hdl : n_head (a_g A u) < A.length := by rw [eu]; show yy < A.length; omega
    obtain ⟨m2, a1, a2, a3, a4⟩ := r_ahead R1 hL jd (m1 74 iu) No
    have lb := a4 (g_T G) (n_bl (a_g A u)) d hd ub
    have e1 : n_head (a_g B A.length) = n_head (a_g A u) := by rw [zg, es]; rfl
    have e2 : n_sg (a_g B A.length) = n_sg (a_g A u) := by rw [zg, es]; rfl
    have e3 : n_bl (a_g B A.length) = d :: n_bl (a_g A u) := by rw [zg, es]; rfl
    have e4 : rk B A.length = rk A u + 1 := by rw [rk, zg, es]; rfl
    have e5 : tn B A.length = tn B (n_head (a_g B A.length)) := by rw [e1, tn_px pA hdl, tn, zg, es]; rfl
    obtain ⟨m3, b1, b2, b3⟩ := r_tree (a := A.length) (hh := hh) (ks := m1 73 iu) (kb := (g_L G : Int)) a2 hT (by have := hw.1; omega) zl (by rw [e1]; exact ud) (by rw [e1]; exact uH) e5 (by rw [e2]; exact a3.lH us) (by rw [e3]; exact lb)
    refine ⟨m3, ?_, b2, (a3.pre b3).cast (by omega)⟩
    unfold J_X11_link_71
    rw [hp_ald (by omega) (by omega), Int.toNat_natCast, a1, hp_b, u72, show ((rk A u : Int) + 1) = (rk B A.length : Int) by rw [e4]; omega, b1, hp_b]
    rfl
  have ml := r_isLess R1 yH xH
  rw [← yt, ← xt, tn_px pA yl, tn_px pA xl] at ml
  have rx : rk B x = rk A x := rk_px pA xl
  have fin : ∀ m' : hMem, Gx (In A.length (A.length + 1)) 0 m1 G m' (g_H G, g_T G ++ [A.length], g_L G + 1) → Gx (In A.length (A.length + 1)) 1 m G m' (g_H G, g_T G ++ [A.length], g_L G + 1) := fun m' g => ((gx_22 em1 No).pre g).cast (by omega)
  unfold f_X11_link
  rw [hp_put, ← em1, hp_ald (by omega) (by omega), hp_ald (by omega) (by omega), Int.toNat_natCast, Int.toNat_natCast, x72, y72, ml, hp_b]
  unfold J_X11_link_36
  by_cases c : tn A y < tn A x
  · obtain ⟨m', k1, k2, k3⟩ := key j i y x hj hi hy (by unfold s_ln s_up s_dn; rw [if_pos c, if_pos c])
    refine ⟨m', ?_, k2, fin m' k3⟩
    rw [if_pos c, hp_eq_f (by decide) (by decide) (by decide), hp_ald (by omega) (by omega), hp_ald (by omega) (by omega), hp_ald (by omega) (by omega), hp_eq_f (by decide) (by decide) (by decide), Int.toNat_natCast, Int.toNat_natCast, x71, rx, hr]
    exact k1
  · obtain ⟨m', k1, k2, k3⟩ := key i j x y hi hj hx (by unfold s_ln s_up s_dn; rw [if_neg c, if_neg c])
    refine ⟨m', ?_, k2, fin m' k3⟩
    rw [if_neg c, hp_eq_t (by decide) (by decide) rfl, hp_ald (by omega) (by omega), hp_ald (by omega) (by omega), hp_ald (by omega) (by omega), hp_eq_t (by decide) (by decide) rfl, Int.toNat_natCast, x71, rx]
    exact k1
end
theorem r_carryL {law : Nat} {B : hA} {vs : List hVr} : ∀ (q : List Nat) (n : Nat) {A : hA} {G : hG} {m : hMem} {t i : Nat} {k : Int}, q.length < n → Rel B vs G m → Wf law A → Tl A [t] → Tl A q → Sx A q → (∀ x ∈ q, rk A t ≤ rk A x) → (jb A t ++ fm A n_jobs q).length ≤ 24 → Px (s_carry A t q).1 B → Sm A B G → g_L G + q.length + 1 ≤ 40000 → (g_T G)[i]? = some t → Lr m (g_L G) (g_T G) k q →
    ∃ k' m' G', L_X11_carries_5 n (i : Int) k m = some (k', m') ∧ Rel B vs G' m' ∧ Gx (In A.length (s_carry A t q).1.length) ((s_carry A t q).2.2 : Int) m G m' G' ∧ Lr m' (g_L G') (g_T G') k' (s_carry A t q).2.1 ∧ g_L G' ≤ g_L G + (s_carry A t q).2.2 + 1
  | [], 0, _, _, _, _, _, _, hn, _, _, _, _, _, _, _, _, _, _, _, _ => by simp at hn
  | x :: q, 0, _, _, _, _, _, _, hn, _, _, _, _, _, _, _, _, _, _, _, _ => by simp at hn
  | [], n + 1, A, G, m, t, i, k, hn, h, hw, ht, hq, hs, hr, hl, hp, hS, hL, hi, hk => by
    have hk0 : k = -1 := hk
    simp only [List.length_nil] at hL
    obtain ⟨m2, a1, a2, a3, a4⟩ := r_ahead h (by omega) i k (In A.length A.length)
    refine ⟨(g_L G : Int), m2, (g_H G, g_T G, g_L G + 1), ?_, a2, a3, a4 _ [] t hi hk, Nat.le_refl _⟩
    show B_X11_carries_5 (L_X11_carries_5 n) (i : Int) k m = _
    unfold B_X11_carries_5 J_X11_carries_56
    rw [hp_lt_t (by omega) (by decide) (by omega), a1, hp_b]
    rfl
  | x :: q, n + 1, A, G, m, t, i, k, hn, h, hw, ht, hq, hs, hr, hl, hp, hS, hL, hi, hk => by
    obtain ⟨hx, hq'⟩ := tl_cons.mp hq
    obtain ⟨t1, t2, t3⟩ := ht t (by simp)
    obtain ⟨x1, x2, x3⟩ := hx x (by simp)
    simp only [List.length_cons] at hn hL
    have bx := wf_tn hw x2
    have bt := wf_tn hw t2
    have pA : Px A (s_carry A t (x :: q)).1 := (carry_ok (x :: q) hw ht hq hs hr hl).2.1
    have pB := pA.trans hp
    obtain ⟨j, jt, ek, jL, e75, gx, hkr⟩ := id hk
    have i8 := h.t8 hi
    have j8 := h.t8 gx
    have L4 := h.2.2.2.1.2.2
    have it := (h.2.2.2.2.2.2.2 i t hi).2.2.2.1
    have ix := (h.2.2.2.2.2.2.2 jt x gx).2.2.2.1
    rw [rk_px pB t2] at it
    rw [rk_px pB x2] at ix
    have step : L_X11_carries_5 (n + 1) (i : Int) k m = hv_lt (rk A t : Int) (rk A x : Int) (J_X11_carries_56 (i : Int) k m) (hv_b (f_X11_link (i : Int) (jt : Int) m) (fun r5 m6 => hv_ald m6 76 40000 k (fun v7 => L_X11_carries_5 n r5 v7 m6))) := by
      show B_X11_carries_5 (L_X11_carries_5 n) (i : Int) k m = _
      unfold B_X11_carries_5
      rw [ek, hp_lt_f (by omega) (by decide) (by omega), hp_ald (by omega) (by omega), hp_ald (by omega) (by omega), Int.toNat_natCast, Int.toNat_natCast, e75, hp_ald (by omega) (by omega), Int.toNat_natCast, hp_ald (by omega) (by omega), Int.toNat_natCast, e75, it, ix]
    rw [step]
    by_cases c : rk A t < rk A x
    · have es : s_carry A t (x :: q) = (A, t :: x :: q, 0) := by rw [s_carry, if_pos c]
      rw [es]
      obtain ⟨m2, a1, a2, a3, a4⟩ := r_ahead h (by omega) i k (In A.length A.length)
      refine ⟨(g_L G : Int), m2, (g_H G, g_T G, g_L G + 1), ?_, a2, a3, a4 _ (x :: q) t hi hk, Nat.le_refl _⟩
      rw [hp_lt_t (by omega) (by omega) (by omega)]
      unfold J_X11_carries_56
      rw [a1, hp_b]
      rfl
    · have es : s_carry A t (x :: q) = ((s_carry (s_link A t x) A.length q).1, (s_carry (s_link A t x) A.length q).2.1, (s_carry (s_link A t x) A.length q).2.2 + 1) := by rw [s_carry, if_neg c]
      rw [es] at hp ⊢
      have hrx : rk A t = rk A x := by have := hr x (by simp); omega
      have hl' : (jb A t ++ (jb A x ++ fm A n_jobs q)).length ≤ 24 := hl
      rw [List.length_append, List.length_append] at hl'
      obtain ⟨k1, k2, k3, k4, k5, k6⟩ := link_ok hw ht hx hrx (by omega)
      have hsq := (List.pairwise_cons.mp hs)
      have hfm := fm_px k2 n_jobs hq'.al
      have hlen := k5.length_eq
      rw [List.length_append] at hlen
      have hSx := (sx_px k2 hq'.al).mpr hsq.2
      have hrk : ∀ y ∈ q, rk (s_link A t x) A.length ≤ rk (s_link A t x) y := fun y hy => by
        rw [k4, rk_px k2 (hq' y hy).2.1, hrx]
        exact hsq.1 y hy
      have hll : (jb (s_link A t x) A.length ++ fm (s_link A t x) n_jobs q).length ≤ 24 := by rw [List.length_append, hfm]; omega
      have cok := carry_ok q k1 k3 (hq'.px k2) hSx hrk hll
      have hp2 : Px (s_carry (s_link A t x) A.length q).1 B := hp
      have pl : Px (s_link A t x) B := cok.2.1.trans hp2
      have blen := pl.len
      obtain ⟨m1, g1, g2, g3⟩ := r_link h hw ht hx hrx pl hi gx (by have := hS.2; omega) (by omega)
      have lk := g3.lT hkr
      have e76 : m1 76 j = m 76 j := (g3.1 j jL).2
      have g3' : Gx (In A.length (s_link A t x).length) 1 m G m1 (g_H G, g_T G ++ [A.length], g_L G + 1) := by rw [k6]; exact g3
      have hL1 : g_L (g_H G, g_T G ++ [A.length], g_L G + 1) = g_L G + 1 := rfl
      obtain ⟨k', m', G', p1, p2, p3, p4, p5⟩ := r_carryL q n (A := s_link A t x) (G := (g_H G, g_T G ++ [A.length], g_L G + 1)) (m := m1) (t := A.length) (i := (g_T G).length) (k := m1 76 j) (by omega) g2 k1 k3 (hq'.px k2) hSx hrk hll hp2 (hS.step g3' (by omega)) (by omega) (get_new _ _) (by rw [e76]; exact lk)
      refine ⟨k', m', G', ?_, p2, (g3'.tr p3 (by omega) cok.2.1.len).cast ?_, p4, by show g_L G' ≤ g_L G + ((s_carry (s_link A t x) A.length q).2.2 + 1) + 1; omega⟩
      · rw [hp_lt_f (by omega) (by omega) (by omega), g1, hp_b, ek, hp_ald (by omega) (by omega), Int.toNat_natCast]
        exact p1
      · show (1 : Int) + ((s_carry (s_link A t x) A.length q).2.2 : Int) = (((s_carry (s_link A t x) A.length q).2.2 + 1 : Nat) : Int)
        omega
section
variable {law : Nat} {A B : hA} {vs : List hVr} {G : hG} {m : hMem}
theorem r_carry {q : List Nat} {t i : Nat} {k : Int} (h : Rel B vs G m) (hw : Wf law A) (ht : Tl A [t]) (hq : Tl A q) (hs : Sx A q) (hr : ∀ x ∈ q, rk A t ≤ rk A x) (hl : (jb A t ++ fm A n_jobs q).length ≤ 24) (hp : Px (s_carry A t q).1 B) (hS : Sm A B G) (hL : g_L G + q.length + 1 ≤ 40000) (hi : (g_T G)[i]? = some t) (hk : Lr m (g_L G) (g_T G) k q) :
    ∃ k' m' G', f_X11_carries (i : Int) k m = some (k', m') ∧ Rel B vs G' m' ∧ Gx (In A.length (s_carry A t q).1.length) ((s_carry A t q).2.2 : Int) m G m' G' ∧ Lr m' (g_L G') (g_T G') k' (s_carry A t q).2.1 ∧ g_L G' ≤ g_L G + (s_carry A t q).2.2 + 1 :=
  r_carryL q hv_FU (fu_lt (by omega)) h hw ht hq hs hr hl hp hS hL hi hk
theorem r_settled {q : List Nat} {k : Int} (h : Rel B vs G m) (hw : Wf law A) (hq : Tl A q) (hs : Sx A q.tail) (hww : ∀ x y l, q = x :: y :: l → rk A x ≤ rk A y) (hl : (fm A n_jobs q).length ≤ 24) (hp : Px (s_cf A q).1 B) (hS : Sm A B G) (hL : g_L G + q.length ≤ 40000) (hk : Lr m (g_L G) (g_T G) k q) :
    ∃ k' m' G', f_X11_settled k m = some (k', m') ∧ Rel B vs G' m' ∧ Gx (In A.length (s_cf A q).1.length) ((s_cf A q).2.2 : Int) m G m' G' ∧ Lr m' (g_L G') (g_T G') k' (s_cf A q).2.1 ∧ g_L G' ≤ g_L G + q.length := by
  cases q with
  | nil =>
    have hk0 : k = -1 := hk
    refine ⟨-1, m, G, ?_, h, Gx.refl _ _ _, rfl, by omega⟩
    unfold f_X11_settled
    rw [hp_lt_t (by omega) (by decide) (by omega)]
    rfl
  | cons x q =>
    obtain ⟨hx, hq'⟩ := tl_cons.mp hq
    obtain ⟨j, jt, ek, jL, e75, gx, hkr⟩ := id hk
    have j8 := h.t8 gx
    have L4 := h.2.2.2.1.2.2
    simp only [List.length_cons] at hL
    have hs : Sx A q := hs
    have hr : ∀ y ∈ q, rk A x ≤ rk A y := fun y hy => by
      cases q with
      | nil => simp at hy
      | cons z q =>
        have h1 := hww x z q rfl
        rcases List.mem_cons.mp hy with e | e
        · rw [e]; exact h1
        · have := (List.pairwise_cons.mp hs).1 y e
          omega
    obtain ⟨-, -, -, -, -, -, -, t8, t9⟩ := carry_ok q hw hx hq' hs hr hl
    obtain ⟨k', m', G', p1, p2, p3, p4, p5⟩ := r_carry (t := x) (i := jt) h hw hx hq' hs hr hl hp hS (by omega) gx hkr
    refine ⟨k', m', G', ?_, p2, p3, p4, by rw [List.length_cons]; omega⟩
    unfold f_X11_settled
    rw [ek, hp_lt_f (by omega) (by decide) (by omega), hp_ald (by omega) (by omega), hp_ald (by omega) (by omega), Int.toNat_natCast, e75, p1, hp_b]
    rfl
end
theorem r_goes {law : Nat} {B : hA} {vs : List hVr} : ∀ (n f : Nat) {A : hA} {a c : List Nat} {G : hG} {m : hMem} {ka kc : Int}, a.length + c.length ≤ n → n < f → Rel B vs G m → Wf law A → Tl A a → Tl A c → Sx A a → Sx A c → (fm A n_jobs a ++ fm A n_jobs c).length ≤ 24 → Px (s_mg n A a c).1 B → Sm A B G → g_L G + 2 * (a.length + c.length) ≤ 40000 → Lr m (g_L G) (g_T G) ka a → Lr m (g_L G) (g_T G) kc c →
    ∃ k' m' G', rr_goes f ka kc m = some (k', m') ∧ Rel B vs G' m' ∧ Gx (In A.length (s_mg n A a c).1.length) ((s_mg n A a c).2.2 : Int) m G m' G' ∧ Lr m' (g_L G') (g_T G') k' (s_mg n A a c).2.1 ∧ g_L G' ≤ g_L G + (s_mg n A a c).2.2 + (a.length + c.length)
  | n, 0, _, _, _, _, _, _, _, _, hf, _, _, _, _, _, _, _, _, _, _, _, _ => by omega
  | n, f + 1, A, [], c, G, m, ka, kc, hn, hf, h, hw, ha, hc, sa, sc, hl, hp, hS, hL, hka, hkc => by
    have k0 : ka = -1 := hka
    have e : s_mg n A [] c = (A, c, 0) := by
      cases n with
      | zero =>
        have : c = [] := by simpa using hn
        subst this; rfl
      | succ n => rfl
    rw [e]
    refine ⟨kc, m, G, ?_, h, Gx.refl _ _ _, hkc, by omega⟩
    show fs_X11_goesTogether (rr_goes f) ka kc m = _
    unfold fs_X11_goesTogether J_X11_goesTogether_8
    rw [hp_lt_t (by omega) (by decide) (by omega), hp_lt_t (by omega) (by decide) (by omega)]
    rfl
  | n, f + 1, A, x :: a, [], G, m, ka, kc, hn, hf, h, hw, ha, hc, sa, sc, hl, hp, hS, hL, hka, hkc => by
    have k0 : kc = -1 := hkc
    obtain ⟨j, jt, ek, jL, e75, gx, hkr⟩ := id hka
    have L4 := h.2.2.2.1.2.2
    have e : s_mg n A (x :: a) [] = (A, x :: a, 0) := by
      cases n with
      | zero => simp at hn
      | succ n => rfl
    rw [e]
    refine ⟨ka, m, G, ?_, h, Gx.refl _ _ _, hka, by omega⟩
    show fs_X11_goesTogether (rr_goes f) ka kc m = _
    unfold fs_X11_goesTogether J_X11_goesTogether_8
    rw [hp_lt_f (by omega) (by decide) (by omega), hp_lt_t (by omega) (by decide) (by omega), hp_lt_f (by omega) (by decide) (by omega)]
    rfl
  | 0, f + 1, A, x :: a, y :: c, G, m, ka, kc, hn, hf, h, hw, ha, hc, sa, sc, hl, hp, hS, hL, hka, hkc => by simp at hn
  | n + 1, f + 1, A, x :: a, y :: c, G, m, ka, kc, hn, hf, h, hw, ha, hc, sa, sc, hl, hp, hS, hL, hka, hkc => by
    obtain ⟨hx, ha'⟩ := tl_cons.mp ha
    obtain ⟨hy, hc'⟩ := tl_cons.mp hc
    have sa' := List.pairwise_cons.mp sa
    have sc' := List.pairwise_cons.mp sc
    have xl := (hx x (by simp)).2.1
    have yl := (hy y (by simp)).2.1
    have bx := wf_tn hw xl
    have by' := wf_tn hw yl
    have mok := mg_ok (n + 1) (A := A) (a := x :: a) (b := y :: c) 0 hn hw ha hc sa sc (fun _ _ => Nat.zero_le _) (fun _ _ => Nat.zero_le _) hl
    have pB : Px A B := mok.2.1.trans hp
    obtain ⟨j, jx, eka, jL, e75, gx, hkr⟩ := id hka
    obtain ⟨i, iy, ekc, iL, f75, gy, hcr⟩ := id hkc
    have x8 := h.t8 gx
    have y8 := h.t8 gy
    have L4 := h.2.2.2.1.2.2
    have rx := (h.2.2.2.2.2.2.2 jx x gx).2.2.2.1
    have ry := (h.2.2.2.2.2.2.2 iy y gy).2.2.2.1
    rw [rk_px pB xl] at rx
    rw [rk_px pB yl] at ry
    simp only [List.length_cons] at hn hL
    have hl' : ((jb A x ++ fm A n_jobs a) ++ (jb A y ++ fm A n_jobs c)).length ≤ 24 := hl
    simp only [List.length_append] at hl'
    have lx : (fm A n_jobs (x :: a)).length = (jb A x).length + (fm A n_jobs a).length := by
      show (jb A x ++ fm A n_jobs a).length = _
      rw [List.length_append]
    have ly : (fm A n_jobs (y :: c)).length = (jb A y).length + (fm A n_jobs c).length := by
      show (jb A y ++ fm A n_jobs c).length = _
      rw [List.length_append]
    have start : rr_goes (f + 1) ka kc m = hv_lt (rk A x : Int) (rk A y : Int) (hv_b (rr_goes f (m 76 j) kc m) (fun r21 m22 => hv_b (f_X11_ahead (jx : Int) r21 m22) (fun r23 m24 => hv_ret r23 m24))) (hv_lt (rk A y : Int) (rk A x : Int) (hv_b (rr_goes f ka (m 76 i) m) (fun r16 m17 => hv_b (f_X11_ahead (iy : Int) r16 m17) (fun r18 m19 => hv_ret r18 m19))) (hv_b (rr_goes f (m 76 j) (m 76 i) m) (fun r9 m10 => hv_b (f_X11_link (jx : Int) (iy : Int) m10) (fun r11 m12 => hv_b (f_X11_carries r11 r9 m12) (fun r13 m14 => hv_ret r13 m14))))) := by
      show fs_X11_goesTogether (rr_goes f) ka kc m = _
      unfold fs_X11_goesTogether
      rw [eka, ekc, hp_lt_f (by omega) (by decide) (by omega), hp_lt_f (by omega) (by decide) (by omega), hp_ald (by omega) (by omega), hp_ald (by omega) (by omega), Int.toNat_natCast, Int.toNat_natCast, e75, f75, hp_ald (by omega) (by omega), hp_ald (by omega) (by omega), Int.toNat_natCast, Int.toNat_natCast, rx, ry, hp_ald (by omega) (by omega), Int.toNat_natCast, hp_ald (by omega) (by omega), hp_ald (by omega) (by omega), Int.toNat_natCast, Int.toNat_natCast, ry, hp_ald (by omega) (by omega), Int.toNat_natCast, hp_ald (by omega) (by omega), Int.toNat_natCast, rx, hp_ald (by omega) (by omega), Int.toNat_natCast]
    rw [start]
    by_cases c1 : rk A x < rk A y
    · have es : s_mg (n + 1) A (x :: a) (y :: c) = ((s_mg n A a (y :: c)).1, x :: (s_mg n A a (y :: c)).2.1, (s_mg n A a (y :: c)).2.2) := by rw [s_mg, if_pos c1]
      rw [es] at hp ⊢
      have hls : (fm A n_jobs a ++ fm A n_jobs (y :: c)).length ≤ 24 := by
        show (fm A n_jobs a ++ (jb A y ++ fm A n_jobs c)).length ≤ 24
        simp only [List.length_append]; omega
      have q8 := (mg_ok n (A := A) (a := a) (b := y :: c) 0 (by simp only [List.length_cons]; omega) hw ha' hc sa'.2 sc (fun _ _ => Nat.zero_le _) (fun _ _ => Nat.zero_le _) hls).2.2.2.2.2.2.2.1
      simp only [List.length_cons] at q8
      obtain ⟨k', m', G', g1, g2, g3, g4, g5⟩ := r_goes n f (A := A) (a := a) (c := y :: c) (ka := m 76 j) (kc := kc) (by simp only [List.length_cons]; omega) (by omega) h hw ha' hc sa'.2 sc hls hp hS (by simp only [List.length_cons]; omega) hkr hkc
      simp only [List.length_cons] at g5
      obtain ⟨m2, b1, b2, b3, b4⟩ := r_ahead g2 (by omega) jx k' No
      refine ⟨(g_L G' : Int), m2, (g_H G', g_T G', g_L G' + 1), ?_, b2, (g3.post b3).cast (by show ((s_mg n A a (y :: c)).2.2 : Int) + 0 = ((s_mg n A a (y :: c)).2.2 : Int); omega), b4 _ _ x (g3.mT _ _ gx) g4, ?_⟩
      · rw [hp_lt_t (by omega) (by omega) (by omega), g1, hp_b, b1, hp_b]
        rfl
      · show g_L G' + 1 ≤ g_L G + (s_mg n A a (y :: c)).2.2 + ((x :: a).length + (y :: c).length)
        simp only [List.length_cons]; omega
    · by_cases c2 : rk A y < rk A x
      · have es : s_mg (n + 1) A (x :: a) (y :: c) = ((s_mg n A (x :: a) c).1, y :: (s_mg n A (x :: a) c).2.1, (s_mg n A (x :: a) c).2.2) := by rw [s_mg, if_neg c1, if_pos c2]
        rw [es] at hp ⊢
        have hls : (fm A n_jobs (x :: a) ++ fm A n_jobs c).length ≤ 24 := by
          show ((jb A x ++ fm A n_jobs a) ++ fm A n_jobs c).length ≤ 24
          simp only [List.length_append]; omega
        have q8 := (mg_ok n (A := A) (a := x :: a) (b := c) 0 (by simp only [List.length_cons]; omega) hw ha hc' sa sc'.2 (fun _ _ => Nat.zero_le _) (fun _ _ => Nat.zero_le _) hls).2.2.2.2.2.2.2.1
        simp only [List.length_cons] at q8
        obtain ⟨k', m', G', g1, g2, g3, g4, g5⟩ := r_goes n f (A := A) (a := x :: a) (c := c) (ka := ka) (kc := m 76 i) (by simp only [List.length_cons]; omega) (by omega) h hw ha hc' sa sc'.2 hls hp hS (by simp only [List.length_cons]; omega) hka hcr
        simp only [List.length_cons] at g5
        obtain ⟨m2, b1, b2, b3, b4⟩ := r_ahead g2 (by omega) iy k' No
        refine ⟨(g_L G' : Int), m2, (g_H G', g_T G', g_L G' + 1), ?_, b2, (g3.post b3).cast (by show ((s_mg n A (x :: a) c).2.2 : Int) + 0 = ((s_mg n A (x :: a) c).2.2 : Int); omega), b4 _ _ y (g3.mT _ _ gy) g4, ?_⟩
        · rw [hp_lt_f (by omega) (by omega) (by omega), hp_lt_t (by omega) (by omega) (by omega), g1, hp_b, b1, hp_b]
          rfl
        · show g_L G' + 1 ≤ g_L G + (s_mg n A (x :: a) c).2.2 + ((x :: a).length + (y :: c).length)
          simp only [List.length_cons]; omega
      · have hr : rk A x = rk A y := by omega
        have es : s_mg (n + 1) A (x :: a) (y :: c) = ((s_carry (s_mg n (s_link A x y) a c).1 A.length (s_mg n (s_link A x y) a c).2.1).1, (s_carry (s_mg n (s_link A x y) a c).1 A.length (s_mg n (s_link A x y) a c).2.1).2.1, 1 + (s_mg n (s_link A x y) a c).2.2 + (s_carry (s_mg n (s_link A x y) a c).1 A.length (s_mg n (s_link A x y) a c).2.1).2.2) := by rw [s_mg, if_neg c1, if_neg c2]
        rw [es] at hp ⊢
        have hp : Px (s_carry (s_mg n (s_link A x y) a c).1 A.length (s_mg n (s_link A x y) a c).2.1).1 B := hp
        obtain ⟨k1, k2, k3, k4, k5, k6⟩ := link_ok hw hx hy hr (by omega)
        have fa := fm_px k2 n_jobs ha'.al
        have fc := fm_px k2 n_jobs hc'.al
        have sa2 := (sx_px k2 ha'.al).mpr sa'.2
        have sc2 := (sx_px k2 hc'.al).mpr sc'.2
        have hls : (fm (s_link A x y) n_jobs a ++ fm (s_link A x y) n_jobs c).length ≤ 24 := by rw [fa, fc, List.length_append]; omega
        obtain ⟨q1, q2, q3, q4, q5, q6, q7, q8, q9⟩ := mg_ok n (A := s_link A x y) (a := a) (b := c) (rk A x + 1) (by omega) k1 (ha'.px k2) (hc'.px k2) sa2 sc2 (fun z hz => by rw [rk_px k2 (ha' z hz).2.1]; exact sa'.1 z hz) (fun z hz => by rw [rk_px k2 (hc' z hz).2.1, hr]; exact sc'.1 z hz) hls
        have zl : A.length < (s_link A x y).length := by omega
        have ht2 := k3.px q2
        have hr2 : ∀ z ∈ (s_mg n (s_link A x y) a c).2.1, rk (s_mg n (s_link A x y) a c).1 A.length ≤ rk (s_mg n (s_link A x y) a c).1 z := fun z hz => by rw [rk_px q2 zl, k4]; exact q5 z hz
        have ll2 : (jb (s_mg n (s_link A x y) a c).1 A.length ++ fm (s_mg n (s_link A x y) a c).1 n_jobs (s_mg n (s_link A x y) a c).2.1).length ≤ 24 := by
          have e1 := q6.length_eq
          have e2 := k5.length_eq
          rw [fa, fc, List.length_append] at e1
          rw [List.length_append] at e2
          rw [List.length_append, jb_px q2 zl]
          omega
        obtain ⟨t1, t2, t3, t4, t5, t6, t7, t8, t9⟩ := carry_ok (s_mg n (s_link A x y) a c).2.1 q1 ht2 q3 q4 hr2 ll2
        have pmg : Px (s_mg n (s_link A x y) a c).1 B := t2.trans hp
        have bl := pmg.len
        have hS2 : Sm (s_link A x y) B G := by unfold Sm at hS ⊢; omega
        obtain ⟨k', m', G', g1, g2, g3, g4, g5⟩ := r_goes n f (A := s_link A x y) (a := a) (c := c) (ka := m 76 j) (kc := m 76 i) (by omega) (by omega) h k1 (ha'.px k2) (hc'.px k2) sa2 sc2 hls pmg hS2 (by omega) hkr hcr
        have gl := g3.len
        have q2l := q2.len
        have T8 : (g_T G').length < 8000 := by unfold Sm at hS; omega
        obtain ⟨m2, b1, b2, b3⟩ := r_link (A := A) g2 hw hx hy hr ((q2.trans t2).trans hp) (g3.mT _ _ gx) (g3.mT _ _ gy) T8 (by omega)
        have hS3 : Sm (s_mg n (s_link A x y) a c).1 B (g_H G', g_T G' ++ [A.length], g_L G' + 1) := by
          unfold Sm at hS ⊢
          have e1 : (g_H (g_H G', g_T G' ++ [A.length], g_L G' + 1)).length = (g_H G').length := rfl
          have e2 : (g_T (g_H G', g_T G' ++ [A.length], g_L G' + 1)).length = (g_T G').length + 1 := by show (g_T G' ++ [A.length]).length = _; simp
          omega
        have hL3 : g_L (g_H G', g_T G' ++ [A.length], g_L G' + 1) = g_L G' + 1 := rfl
        obtain ⟨k3', m3, G3, d1, d2, d3, d4, d5⟩ := r_carry (t := A.length) (i := (g_T G').length) (k := k') b2 q1 ht2 q3 q4 hr2 ll2 hp hS3 (by omega) (get_new _ _) (b3.lT g4)
        rw [k6] at g3
        refine ⟨k3', m3, G3, ?_, d2, (Gx.tri g3 b3 d3 (by omega) t2.len).cast ?_, d4, ?_⟩
        · rw [hp_lt_f (by omega) (by omega) (by omega), hp_lt_f (by omega) (by omega) (by omega), g1, hp_b, b1, hp_b, d1, hp_b]
          rfl
        · show ((s_mg n (s_link A x y) a c).2.2 : Int) + 1 + ((s_carry (s_mg n (s_link A x y) a c).1 A.length (s_mg n (s_link A x y) a c).2.1).2.2 : Int) = ((1 + (s_mg n (s_link A x y) a c).2.2 + (s_carry (s_mg n (s_link A x y) a c).1 A.length (s_mg n (s_link A x y) a c).2.1).2.2 : Nat) : Int)
          omega
        · show g_L G3 ≤ g_L G + (1 + (s_mg n (s_link A x y) a c).2.2 + (s_carry (s_mg n (s_link A x y) a c).1 A.length (s_mg n (s_link A x y) a c).2.1).2.2) + ((x :: a).length + (y :: c).length)
          simp only [List.length_cons]
          omega
theorem r_merges {law : Nat} {A B : hA} {vs : List hVr} {G : hG} {m : hMem} {a c : List Nat} {ka kc : Int} (h : Rel B vs G m) (hw : Wf law A) (ha : Tl A a) (hc : Tl A c) (sa : Sx A a.tail) (wa : ∀ x y l, a = x :: y :: l → rk A x ≤ rk A y) (sc : Sx A c.tail) (wc : ∀ x y l, c = x :: y :: l → rk A x ≤ rk A y) (hl : (fm A n_jobs a ++ fm A n_jobs c).length ≤ 24) (h60 : a.length + c.length < 60) (hp : Px (s_merge A a c).1 B) (hS : Sm A B G) (hL : g_L G + 3 * (a.length + c.length) ≤ 40000) (hka : Lr m (g_L G) (g_T G) ka a) (hkc : Lr m (g_L G) (g_T G) kc c) :
    ∃ k' m' G', f_X11_merges ka kc m = some (k', m') ∧ Rel B vs G' m' ∧ Gx (In A.length (s_merge A a c).1.length) ((s_merge A a c).2.2 : Int) m G m' G' ∧ Lr m' (g_L G') (g_T G') k' (s_merge A a c).2.1 ∧ g_L G' ≤ g_L G + 3 * (a.length + c.length) := by
  rw [List.length_append] at hl
  obtain ⟨g1, g2, g3, g4, g5, g6, g7, g8, g9⟩ := cf_ok hw ha sa wa (by omega)
  have f2 := fm_px g2 n_jobs hc.al
  have sc2 := (sx_px g2 (fun x hx => hc.al x (List.mem_of_mem_tail hx))).mpr sc
  have wc2 : ∀ x y l, c = x :: y :: l → rk (s_cf A a).1 x ≤ rk (s_cf A a).1 y := fun x y l e => by rw [rk_px g2 (hc x (by rw [e]; simp)).2.1, rk_px g2 (hc y (by rw [e]; simp)).2.1]; exact wc x y l e
  obtain ⟨k1, k2, k3, k4, k5, k6, k7, k8, k9⟩ := cf_ok g1 (hc.px g2) sc2 wc2 (by rw [f2]; omega)
  rw [f2] at k6
  have f3 := fm_px k2 n_jobs g3.al
  have l1 := g6.length_eq
  have l2 := k6.length_eq
  have hl3 : (fm (s_cf (s_cf A a).1 c).1 n_jobs (s_cf A a).2.1 ++ fm (s_cf (s_cf A a).1 c).1 n_jobs (s_cf (s_cf A a).1 c).2.1).length ≤ 24 := by rw [f3, List.length_append]; omega
  obtain ⟨q1, q2, q3, q4, q5, q6, q7, q8, q9⟩ := mg_ok ((s_cf A a).2.1.length + (s_cf (s_cf A a).1 c).2.1.length) (A := (s_cf (s_cf A a).1 c).1) (a := (s_cf A a).2.1) (b := (s_cf (s_cf A a).1 c).2.1) 0 (Nat.le_refl _) k1 (g3.px k2) k3 ((sx_px k2 g3.al).mpr g4) k4 (fun _ _ => Nat.zero_le _) (fun _ _ => Nat.zero_le _) hl3
  have hp : Px (s_mg ((s_cf A a).2.1.length + (s_cf (s_cf A a).1 c).2.1.length) (s_cf (s_cf A a).1 c).1 (s_cf A a).2.1 (s_cf (s_cf A a).1 c).2.1).1 B := hp
  have p2 : Px (s_cf (s_cf A a).1 c).1 B := q2.trans hp
  have p1 : Px (s_cf A a).1 B := k2.trans p2
  obtain ⟨ka', m1, G1, a1, a2, a3, a4, a5⟩ := r_settled h hw ha sa wa (by omega) p1 hS (by omega) hka
  have hS1 := hS.step a3 g2.len
  obtain ⟨kc', m2, G2, b1, b2, b3, b4, b5⟩ := r_settled a2 g1 (hc.px g2) sc2 wc2 (by rw [f2]; omega) p2 hS1 (by omega) (a3.lT hkc)
  have hS2 := hS1.step b3 k2.len
  obtain ⟨k', m', G', d1, d2, d3, d4, d5⟩ := r_goes ((s_cf A a).2.1.length + (s_cf (s_cf A a).1 c).2.1.length) 64 (A := (s_cf (s_cf A a).1 c).1) (a := (s_cf A a).2.1) (c := (s_cf (s_cf A a).1 c).2.1) (Nat.le_refl _) (by omega) b2 k1 (g3.px k2) k3 ((sx_px k2 g3.al).mpr g4) k4 hl3 hp hS2 (by omega) (b3.lT a4) b4
  refine ⟨k', m', G', ?_, d2, ((a3.tr b3 g2.len k2.len).tr d3 (Nat.le_trans g2.len k2.len) q2.len).cast ?_, d4, by omega⟩
  · unfold f_X11_merges f_X11_goesTogether
    rw [a1, hp_b, b1, hp_b, d1, hp_b]
    rfl
  · show ((s_cf A a).2.2 : Int) + ((s_cf (s_cf A a).1 c).2.2 : Int) + ((s_mg _ _ _ _).2.2 : Int) = (((s_cf A a).2.2 + (s_cf (s_cf A a).1 c).2.2 + (s_mg _ _ _ _).2.2 : Nat) : Int)
    omega
