/-! the reference's heaps: take, join -/
def en162 (x4 x6 : Int) (mem : hMem) : hRs := hv_ald mem 72 8000 x4 (fun v1 => hv_ald mem 69 8000 v1 (fun v2 => hv_ald mem 70 8000 v1 (fun v3 => hv_b (f_X11_merges v3 x6 mem) (fun r4 m5 => hv_b (f_X11_heap v2 r4 m5) (fun r6 m7 => hv_ret r6 m7)))))
def en106 (x1 x3 x4 x5 : Int) (mem : hMem) : hRs := hv_b (f_X11_withoutFirst x3 x4 mem) (fun r1 m2 => hv_b (f_X11_merges x5 r1 m2) (fun r3 m4 => hv_ald m4 73 8000 x4 (fun v5 => L_X11_takes_162 hv_FU x1 x4 r3 v5 m4)))
theorem r_putsL {law : Nat} {B : hA} {vs : List hVr} (hlaw : law = 0 ∨ law = 1) (o : Int) : ∀ (hs : List Nat) (n : Nat) {A : hA} {G : hG} {m : hMem} {q : List Nat} {k ks : Int}, hs.length < n → Rel B vs G m → Wf law A → Hl A hs → Tl A q → Qk law A q → (fm A n_jobs hs ++ fm A n_jobs q).length ≤ 24 → Px (s_puts law A hs q).1 B → Sm A B G → q.length + hs.length ≤ 12 → g_L G + 15 * hs.length ≤ 40000 → Lr m (g_L G) (g_T G) k q → Lr m (g_L G) (g_H G) ks hs →
    ∃ k' m' G', L_X11_takes_162 n (law : Int) o k ks m = en162 o k' m' ∧ Rel B vs G' m' ∧ Gx (In A.length (s_puts law A hs q).1.length) ((s_puts law A hs q).2.2 : Int) m G m' G' ∧ Lr m' (g_L G') (g_T G') k' (s_puts law A hs q).2.1 ∧ g_L G' ≤ g_L G + 15 * hs.length
  | _, 0, _, _, _, _, _, _, hn, _, _, _, _, _, _, _, _, _, _, _, _ => by omega
  | [], n + 1, A, G, m, q, k, ks, hn, h, hw, hh, hq, hk, hl, hp, hS, h12, hL, hkq, hks => by
    have k0 : ks = -1 := hks
    refine ⟨k, m, G, ?_, h, Gx.refl _ _ _, hkq, by omega⟩
    show B_X11_takes_162 (L_X11_takes_162 n) (law : Int) o k ks m = _
    unfold B_X11_takes_162
    rw [hp_lt_t (by omega) (by decide) (by omega)]
    rfl
  | x :: hs, n + 1, A, G, m, q, k, ks, hn, h, hw, hh, hq, hk, hl, hp, hS, h12, hL, hkq, hks => by
    obtain ⟨hx, hh'⟩ := hl_cons.mp hh
    obtain ⟨j, ix, ek, jL, e75, gx, hkr⟩ := id hks
    have L4 := h.2.2.2.1.2.2
    simp only [List.length_cons] at hn h12 hL ⊢
    have hl' : ((jb A x ++ fm A n_jobs hs) ++ fm A n_jobs q).length ≤ 24 := hl
    simp only [List.length_append] at hl'
    have hl1 : (jb A x ++ fm A n_jobs q).length ≤ 24 := by rw [List.length_append]; omega
    obtain ⟨p1, p2, p3, p4, p5, p6, p7⟩ := put_ok hw hx hq hk hl1 hlaw
    have fS := fm_px p2 n_jobs hh'.al
    have l1 := p5.length_eq
    rw [List.length_append] at l1
    have hl2 : (fm (s_put law A x q).1 n_jobs hs ++ fm (s_put law A x q).1 n_jobs (s_put law A x q).2.1).length ≤ 24 := by rw [fS, List.length_append]; omega
    have hp : Px (s_puts law (s_put law A x q).1 hs (s_put law A x q).2.1).1 B := hp
    have po := puts_ok hlaw hs p1 (hh'.px p2) p3 p4 hl2
    obtain ⟨k1, m1, G1, a1, a2, a3, a4, a5⟩ := r_put h hw hlaw hx hq hk hl1 (po.2.1.trans hp) hS (by omega) gx hkq
    obtain ⟨k', m', G', b1, b2, b3, b4, b5⟩ := r_putsL hlaw o hs n (A := (s_put law A x q).1) (G := G1) (m := m1) (q := (s_put law A x q).2.1) (k := k1) (ks := m 76 j) (by omega) a2 p1 (hh'.px p2) p3 p4 hl2 hp (hS.step a3 p2.len) (by omega) (by omega) a4 (a3.lH hkr)
    refine ⟨k', m', G', ?_, b2, (a3.tr b3 p2.len po.2.1.len).cast ?_, b4, by omega⟩
    · show B_X11_takes_162 (L_X11_takes_162 n) (law : Int) o k ks m = _
      unfold B_X11_takes_162
      rw [ek, hp_lt_f (by omega) (by decide) (by omega), hp_ald (by omega) (by omega), Int.toNat_natCast, e75, a1, hp_b, hp_ald (by omega) (by omega), Int.toNat_natCast, (a3.1 j jL).2]
      exact b1
    · show ((s_put law A x q).2.2 : Int) + ((s_puts law (s_put law A x q).1 hs (s_put law A x q).2.1).2.2 : Int) = (((s_put law A x q).2.2 + (s_puts law (s_put law A x q).1 hs (s_put law A x q).2.1).2.2 : Nat) : Int)
      omega
theorem r_revL {B : hA} {vs : List hVr} (x1 x3 x4 : Int) : ∀ (q : List Nat) (n : Nat) {G : hG} {m : hMem} {l : List Nat} {a k : Int}, q.length < n → Rel B vs G m → g_L G + q.length ≤ 40000 → Lr m (g_L G) (g_T G) k q → Lr m (g_L G) (g_T G) a l →
    ∃ k' m' G', L_X11_takes_106 n x1 x3 x4 a k m = en106 x1 x3 x4 k' m' ∧ Rel B vs G' m' ∧ Gx No 0 m G m' G' ∧ Lr m' (g_L G') (g_T G') k' (q.reverse ++ l) ∧ g_L G' ≤ g_L G + q.length
  | _, 0, _, _, _, _, _, hn, _, _, _, _ => by omega
  | [], n + 1, G, m, l, a, k, hn, h, hL, hk, ha => by
    have k0 : k = -1 := hk
    refine ⟨a, m, G, ?_, h, Gx.refl _ _ _, ha, by omega⟩
    show B_X11_takes_106 (L_X11_takes_106 n) x1 x3 x4 a k m = _
    unfold B_X11_takes_106
    rw [hp_lt_t (by omega) (by decide) (by omega)]
    rfl
  | x :: q, n + 1, G, m, l, a, k, hn, h, hL, hk, ha => by
    obtain ⟨j, ix, ek, jL, e75, gx, hkr⟩ := id hk
    have L4 := h.2.2.2.1.2.2
    simp only [List.length_cons] at hn hL ⊢
    obtain ⟨m1, a1, a2, a3, a4⟩ := r_ahead h (by omega) ix a No
    have hL1 : g_L (g_H G, g_T G, g_L G + 1) = g_L G + 1 := rfl
    obtain ⟨k', m', G', b1, b2, b3, b4, b5⟩ := r_revL x1 x3 x4 q n (G := (g_H G, g_T G, g_L G + 1)) (m := m1) (l := x :: l) (a := (g_L G : Int)) (k := m 76 j) (by omega) a2 (by omega) (a3.lT hkr) (a4 _ l x gx ha)
    refine ⟨k', m', G', ?_, b2, (a3.pre b3).cast (by omega), by rw [List.reverse_cons, List.append_assoc]; exact b4, by omega⟩
    show B_X11_takes_106 (L_X11_takes_106 n) x1 x3 x4 a k m = _
    unfold B_X11_takes_106
    rw [ek, hp_lt_f (by omega) (by decide) (by omega), hp_ald (by omega) (by omega), Int.toNat_natCast, e75, a1, hp_b, hp_ald (by omega) (by omega), Int.toNat_natCast, (a3.1 j jL).2]
    exact b1
theorem r_leastL {B : hA} {vs : List hVr} {G : hG} {m : hMem} (h : Rel B vs G m) (x1 x3 : Int) : ∀ (q : List Nat) (n i t : Nat) (k : Int), q.length < n → (g_T G)[i]? = some t → Lr m (g_L G) (g_T G) k q →
    ∃ i' : Nat, L_X11_takes_37 n x1 x3 (i : Int) k m = hv_ald m 74 8000 (i' : Int) (fun v1 => L_X11_takes_106 hv_FU x1 x3 (i' : Int) (-1) v1 m) ∧ (g_T G)[i']? = some (s_least B t q)
  | _, 0, _, _, _, hn, _, _ => by omega
  | [], n + 1, i, t, k, hn, hi, hk => by
    have k0 : k = -1 := hk
    refine ⟨i, ?_, hi⟩
    show B_X11_takes_37 (L_X11_takes_37 n) x1 x3 (i : Int) k m = _
    unfold B_X11_takes_37
    rw [hp_lt_t (by omega) (by decide) (by omega)]
  | x :: q, n + 1, i, t, k, hn, hi, hk => by
    obtain ⟨j, ix, ek, jL, e75, gx, hkr⟩ := id hk
    have L4 := h.2.2.2.1.2.2
    have i8 := h.t8 hi
    have x8 := h.t8 gx
    simp only [List.length_cons] at hn
    obtain ⟨-, -, -, -, ⟨hx, x72, xH⟩, xt, -⟩ := h.2.2.2.2.2.2.2 _ _ gx
    obtain ⟨-, -, -, -, ⟨ht, t72, tH⟩, tt, -⟩ := h.2.2.2.2.2.2.2 _ _ hi
    have ml := r_isLess h xH tH
    rw [← xt, ← tt] at ml
    show ∃ i' : Nat, B_X11_takes_37 (L_X11_takes_37 n) x1 x3 (i : Int) k m = _ ∧ _
    unfold B_X11_takes_37 J_X11_takes_80
    rw [ek, hp_lt_f (by omega) (by decide) (by omega), hp_ald (by omega) (by omega), Int.toNat_natCast, e75, hp_ald (by omega) (by omega), hp_ald (by omega) (by omega), Int.toNat_natCast, Int.toNat_natCast, x72, t72, ml, hp_b]
    show ∃ i' : Nat, _ ∧ (g_T G)[i']? = some (s_least B (if tn B x < tn B t then x else t) q)
    by_cases c : tn B x < tn B t
    · rw [if_pos c, if_pos c, hp_eq_f (by decide) (by decide) (by decide), hp_ald (by omega) (by omega), Int.toNat_natCast, e75, hp_ald (by omega) (by omega), Int.toNat_natCast]
      exact r_leastL h x1 x3 q n ix x (m 76 j) (by omega) gx hkr
    · rw [if_neg c, if_neg c, hp_eq_t (by decide) (by decide) rfl, hp_ald (by omega) (by omega), Int.toNat_natCast]
      exact r_leastL h x1 x3 q n i t (m 76 j) (by omega) hi hkr
theorem r_wof {B : hA} {vs : List hVr} {o i : Nat} : ∀ (p r : List Nat) (f : Nat) {G : hG} {m : hMem} {k : Int}, p.length < f → (∀ y ∈ p, tn B o < tn B y) → Rel B vs G m → (g_T G)[i]? = some o → g_L G + p.length ≤ 40000 → Lr m (g_L G) (g_T G) k (p ++ o :: r) →
    ∃ k' m' G', rr_wof f k (i : Int) m = some (k', m') ∧ Rel B vs G' m' ∧ Gx No 0 m G m' G' ∧ Lr m' (g_L G') (g_T G') k' (p ++ r) ∧ g_L G' ≤ g_L G + p.length
  | _, _, 0, _, _, _, hn, _, _, _, _, _ => by omega
  | [], r, f + 1, G, m, k, hn, hp, h, hi, hL, hk => by
    obtain ⟨j, ix, ek, jL, e75, gx, hkr⟩ := id hk
    have L4 := h.2.2.2.1.2.2
    have i8 := h.t8 hi
    have x8 := h.t8 gx
    obtain ⟨-, -, -, -, ⟨hx, x72, xH⟩, xt, -⟩ := h.2.2.2.2.2.2.2 _ _ gx
    obtain ⟨-, -, -, -, ⟨ht, t72, tH⟩, tt, -⟩ := h.2.2.2.2.2.2.2 _ _ hi
    have ml := r_isLess h xH tH
    have ml2 := r_isLess h tH xH
    rw [if_neg (Nat.lt_irrefl _)] at ml ml2
    refine ⟨m 76 j, m, G, ?_, h, Gx.refl _ _ _, hkr, by omega⟩
    show fs_X11_withoutFirst (rr_wof f) k (i : Int) m = _
    unfold fs_X11_withoutFirst
    rw [ek, hp_ald (by omega) (by omega), Int.toNat_natCast, e75, hp_ald (by omega) (by omega), hp_ald (by omega) (by omega), Int.toNat_natCast, Int.toNat_natCast, x72, t72, ml, hp_b, hp_eq_t (by decide) (by decide) rfl, hp_ald (by omega) (by omega), hp_ald (by omega) (by omega), Int.toNat_natCast, Int.toNat_natCast, t72, e75, hp_ald (by omega) (by omega), Int.toNat_natCast, x72, ml2, hp_b, hp_eq_t (by decide) (by decide) rfl, hp_ald (by omega) (by omega), Int.toNat_natCast]
    rfl
  | y :: p, r, f + 1, G, m, k, hn, hp, h, hi, hL, hk => by
    obtain ⟨j, ix, ek, jL, e75, gx, hkr⟩ := id hk
    have L4 := h.2.2.2.1.2.2
    have i8 := h.t8 hi
    have x8 := h.t8 gx
    simp only [List.length_cons] at hn hL ⊢
    have hy := hp y (by simp)
    obtain ⟨-, -, -, -, ⟨hx, x72, xH⟩, xt, -⟩ := h.2.2.2.2.2.2.2 _ _ gx
    obtain ⟨-, -, -, -, ⟨ht, t72, tH⟩, tt, -⟩ := h.2.2.2.2.2.2.2 _ _ hi
    have ml := r_isLess h xH tH
    have ml2 := r_isLess h tH xH
    rw [← xt, ← tt, if_neg (by omega)] at ml
    rw [← xt, ← tt, if_pos hy] at ml2
    obtain ⟨k1, m1, G1, b1, b2, b3, b4, b5⟩ := r_wof p r f (G := G) (m := m) (k := m 76 j) (by omega) (fun z hz => hp z (by simp [hz])) h hi (by omega) hkr
    obtain ⟨m2, c1, c2, c3, c4⟩ := r_ahead b2 (by omega) ix k1 No
    refine ⟨(g_L G1 : Int), m2, (g_H G1, g_T G1, g_L G1 + 1), ?_, c2, (b3.post c3).cast (by omega), c4 _ _ y (b3.mT _ _ gx) b4, by show g_L G1 + 1 ≤ _; omega⟩
    show fs_X11_withoutFirst (rr_wof f) k (i : Int) m = _
    unfold fs_X11_withoutFirst J_X11_withoutFirst_55
    rw [ek, hp_ald (by omega) (by omega), Int.toNat_natCast, e75, hp_ald (by omega) (by omega), hp_ald (by omega) (by omega), Int.toNat_natCast, Int.toNat_natCast, x72, t72, ml, hp_b, hp_eq_t (by decide) (by decide) rfl, hp_ald (by omega) (by omega), hp_ald (by omega) (by omega), Int.toNat_natCast, Int.toNat_natCast, t72, e75, hp_ald (by omega) (by omega), Int.toNat_natCast, x72, ml2, hp_b, hp_eq_f (by decide) (by decide) (by decide), hp_ald (by omega) (by omega), hp_ald (by omega) (by omega), Int.toNat_natCast, e75, b1, hp_b, c1, hp_b]
    rfl
theorem least_first {A : hA} : ∀ (q : List Nat) (t : Nat), ∃ p r, t :: q = p ++ s_least A t q :: r ∧ ∀ y ∈ p, tn A (s_least A t q) < tn A y
  | [], t => ⟨[], [], rfl, fun y hy => by simp at hy⟩
  | x :: q, t => by
    show ∃ p r, t :: x :: q = p ++ s_least A (if tn A x < tn A t then x else t) q :: r ∧ ∀ y ∈ p, tn A (s_least A (if tn A x < tn A t then x else t) q) < tn A y
    by_cases c : tn A x < tn A t
    · rw [if_pos c]
      obtain ⟨p, r, e, hp⟩ := least_first (A := A) q x
      have le := least_le (A := A) q x x (by simp)
      refine ⟨t :: p, r, by rw [e]; rfl, fun y hy => ?_⟩
      rcases List.mem_cons.mp hy with h | h
      · rw [h]; omega
      · exact hp y h
    · rw [if_neg c]
      obtain ⟨p, r, e, hp⟩ := least_first (A := A) q t
      cases p with
      | nil =>
        have e' : t :: q = s_least A t q :: r := e
        injection e' with e1 e2
        refine ⟨[], x :: q, by rw [← e1]; rfl, fun y hy => by simp at hy⟩
      | cons z p =>
        have e' : t :: q = z :: (p ++ s_least A t q :: r) := e
        injection e' with e1 e2
        have hz := hp z (by simp)
        rw [← e1] at hz
        refine ⟨t :: x :: p, r, congrArg (fun l => t :: x :: l) e2, fun y hy => ?_⟩
        rcases List.mem_cons.mp hy with h | h
        · rw [h]; exact hz
        · rcases List.mem_cons.mp h with h | h
          · rw [h]; omega
          · exact hp y (by simp [h])
theorem but_split {o : Nat} : ∀ (p r : List Nat), o ∉ p → s_but o (p ++ o :: r) = p ++ r
  | [], r, _ => by show (if o = o then r else _) = r; rw [if_pos rfl]
  | y :: p, r, h => by
    have hy : y ≠ o := fun e => h (by simp [e])
    show (if y = o then p ++ o :: r else y :: s_but o (p ++ o :: r)) = y :: (p ++ r)
    rw [if_neg hy, but_split p r (fun e => h (by simp [e]))]
theorem least_px {A B : hA} (p : Px A B) : ∀ (q : List Nat) (t : Nat), (∀ x ∈ t :: q, x < A.length) → s_least B t q = s_least A t q
  | [], _, _ => rfl
  | x :: q, t, h => by
    show s_least B (if tn B x < tn B t then x else t) q = s_least A (if tn A x < tn A t then x else t) q
    rw [tn_px p (h x (by simp)), tn_px p (h t (by simp))]
    refine least_px p q _ (fun y hy => ?_)
    rcases List.mem_cons.mp hy with e | e
    · rw [e]
      split
      · exact h x (by simp)
      · exact h t (by simp)
    · exact h y (by simp [e])
/-- a heap of the reference; the empty one -/
def Hp (G : hG) (r : Int) (a : Nat) : Prop := (a = 0 ∧ r = -1) ∨ ∃ i : Nat, r = (i : Int) ∧ (g_H G)[i]? = some a
theorem Gx.hp {P : Nat → Prop} {n : Int} {m m' : hMem} {G G' : hG} (g : Gx P n m G m' G') {r : Int} {a : Nat} (h : Hp G r a) : Hp G' r a := by
  rcases h with h | ⟨i, h1, h2⟩
  · exact Or.inl h
  · exact Or.inr ⟨i, h1, g.mH _ _ h2⟩
