/-! the reference: all versions are made -/
def Nd (A : hA) (G : hG) : Prop := (g_H G).Nodup ∧ (g_T G).Nodup ∧ (∀ x ∈ g_H G, x < A.length) ∧ ∀ x ∈ g_T G, x < A.length
theorem Nd.step {A A' : hA} {G G' : hG} {n : Int} {m m' : hMem} (h : Nd A G) (g : Gx (In A.length A'.length) n m G m' G') (hl : A.length ≤ A'.length) : Nd A' G' := by
  obtain ⟨h1, h2, h3, h4⟩ := h
  obtain ⟨-, -, ⟨X, eX, nX, pX⟩, ⟨Y, eY, nY, pY⟩, -⟩ := g
  unfold Nd
  rw [eX, eY]
  refine ⟨app_nodup h1 nX h3 pX (fun x a b => by unfold In at b; omega), app_nodup h2 nY h4 pY (fun x a b => by unfold In at b; omega), fun x hx => ?_, fun x hx => ?_⟩
  · rcases List.mem_append.mp hx with e | e
    · have := h3 x e; omega
    · exact (pX x e).2
  · rcases List.mem_append.mp hx with e | e
    · have := h4 x e; omega
    · exact (pY x e).2
theorem Nd.sm {A B : hA} {G : hG} (h : Nd A G) (hB : B.length ≤ 7000) : Sm A B G := by
  have := nodup_lt h.1 h.2.2.1
  have := nodup_lt h.2.1 h.2.2.2
  unfold Sm
  omega
theorem Rel.eq' {B : hA} {vs : List hVr} {G : hG} {m m' : hMem} (h : Rel B vs G m) (e : ∀ k, k = 66 ∨ (69 ≤ k ∧ k ≤ 76) → m' k = m k) (e65 : ∀ j, j = 13 ∨ j = 18 ∨ j = 21 → m' 65 j = m 65 j) : Rel B vs G m' := by
  obtain ⟨r1, r2, r3, r4, r5, r6, r7, r8⟩ := h
  have le : ∀ {M l : List Nat} {k : Int}, Lr m (g_L G) M k l → Lr m' (g_L G) M k l := fun hk => hk.ex (fun j _ => by rw [e 75 (by omega), e 76 (by omega)]; exact ⟨rfl, rfl⟩) (Nat.le_refl _) (Ms.refl _)
  refine ⟨by rw [e65 13 (by omega)]; exact r1, by rw [e65 18 (by omega)]; exact r2, by rw [e65 21 (by omega)]; exact r3, r4, r5.eq (e 66 (by omega)), r6, fun i a hi => ?_, fun i a hi => ?_⟩
  · obtain ⟨h1, h2, h3, h4, h5, h6⟩ := r7 i a hi
    exact ⟨h1, h2, h3, by rw [e 69 (by omega)]; exact h4, h5, by rw [e 70 (by omega)]; exact le h6⟩
  · obtain ⟨h1, h2, h3, h4, ⟨q, h5, h6⟩, h7, h8, h9⟩ := r8 i a hi
    exact ⟨h1, h2, h3, by rw [e 71 (by omega)]; exact h4, ⟨q, by rw [e 72 (by omega)]; exact h5, h6⟩, h7, by rw [e 73 (by omega)]; exact le h8, by rw [e 74 (by omega)]; exact le h9⟩
theorem gd0 {α : Type} (a d : α) (l : List α) : (a :: l).getD 0 d = a := rfl
theorem gd1 {α : Type} (a b d : α) (l : List α) : (a :: b :: l).getD 1 d = b := rfl
theorem gd2 {α : Type} (a b c d : α) (l : List α) : (a :: b :: c :: l).getD 2 d = c := rfl
theorem gd3 {α : Type} (a b c e d : α) (l : List α) : (a :: b :: c :: e :: l).getD 3 d = e := rfl
theorem r_vstep {law w : Nat} {vs us : List hVr} {u : hVr} {B : hA} {G : hG} {m : hMem} (hlaw : law = 0 ∨ law = 1) (hos : Os (us ++ [u])) {x2 : Int} (hx2 : hv_R32 x2) (hw2 : (us.length : Int) = x2 ↔ us.length = w) (hp : Px (h_step law w (h_all law w us) u).1 B) (hB : B.length ≤ 7000) (h : Rel B vs G m) (hN : Nd (h_all law w us).1 G) (hL : g_L G + 240 ≤ 40000) (ht : ∀ j, j < us.length → Hp G (m 77 j) ((h_all law w us).2.1.getD j 0)) (hM : Mv vs us.length u m) (hJ : v_how u = 1 → Jt vs (v_tu u)) (R : Int → Int → Int → hMem → hRs) :
    ∃ r m' G', hv_eq (v_how u : Int) 0 (J_X11_makesAll_62 R (law : Int) x2 (us.length : Int) (-1) m) (hv_ald m 66 216 (36 + (us.length : Int)) (fun v4 => hv_ald m 77 30 v4 (fun v5 => J_X11_makesAll_62 R (law : Int) x2 (us.length : Int) v5 m))) = J_X11_makesAll_193 R (law : Int) x2 (us.length : Int) (hv_up m' 77 us.length r) ∧ Rel B vs G' m' ∧ Gx (In (h_all law w us).1.length (h_step law w (h_all law w us) u).1.length) ((h_step law w (h_all law w us) u).2.2 : Int) m G m' G' ∧ Hp G' r (h_step law w (h_all law w us) u).2.1 ∧ g_L G' ≤ g_L G + 240 := by
  obtain ⟨ho, h30, hv⟩ := os_snoc.mp hos
  obtain ⟨l1, l2, l3⟩ := ov_lt hv
  obtain ⟨i1, i2, i3, i4, i5⟩ := hi_all hlaw w us ho
  obtain ⟨⟨bo1, bo2⟩, -⟩ := bo_all w us ho
  obtain ⟨M1, M2, M3, M4, -⟩ := hM
  obtain ⟨S, hSd⟩ : ∃ S, S = h_all law w us := ⟨_, rfl⟩
  rw [← hSd] at hp hN ht i1 i2 i3 i4 i5 ⊢
  have hS := hN.sm hB
  have e6 : ((6 : Int) + (us.length : Int)).toNat = 6 + us.length := by omega
  have e36 : ((36 : Int) + (us.length : Int)).toNat = 36 + us.length := by omega
  have e66 : ((66 : Int) + (us.length : Int)).toNat = 66 + us.length := by omega
  have e96 : ((96 : Int) + (us.length : Int)).toNat = 96 + us.length := by omega
  rcases hv with h0 | ⟨h1, ho1, ⟨k, hk, et⟩, t1, t2, hsz⟩ | ⟨h2, ho1, ho2, hsz⟩ | ⟨h3, ho1, hsz⟩
  · have es : h_step law w S u = (S.1, 0, 0) := by unfold h_step; rw [if_neg (by omega), if_neg (by omega), if_neg (by omega)]
    rw [es]
    refine ⟨-1, m, G, ?_, h, Gx.refl _ _ _, Or.inl ⟨rfl, rfl⟩, by omega⟩
    unfold J_X11_makesAll_62
    rw [hp_eq_t (by omega) (by decide) (by omega), hp_ald (by omega) (by omega), e6, M1, hp_tsw_d (by omega) (by simp; omega), hp_ast (by omega) (by omega), Int.toNat_natCast]
  · obtain ⟨g1, -⟩ := i5 _ ho1
    have M2 : m 66 (36 + us.length) = (v_of u : Int) := by rw [M2, if_neg (by omega)]
    have M4 : m 66 (96 + us.length) = ((v_tu u % 30 : Nat) : Int) := by rw [M4, if_pos h1]
    have hto := ht _ ho1
    rw [hp_eq_f (by omega) (by decide) (by omega), hp_ald (by omega) (by omega), e36, M2, hp_ald (by omega) (by omega), Int.toNat_natCast]
    unfold J_X11_makesAll_62
    rw [hp_ald (by omega) (by omega), e6, M1, hp_tsw (i := 0) (by omega) (by omega) (by simp), gd0]
    by_cases c : us.length = w
    · have es : h_step law w S u = (S.1, S.2.1.getD (v_of u) 0, 0) := by unfold h_step; rw [if_pos h1, if_pos (by omega)]
      rw [es]
      refine ⟨m 77 (v_of u), m, G, ?_, h, Gx.refl _ _ _, hto, by omega⟩
      unfold J_X11_makesAll_136
      rw [hp_eq_t (by omega) hx2 (hw2.mpr c), hp_ast (by omega) (by omega), Int.toNat_natCast]
    · have es : h_step law w S u = s_join law (S.1 ++ [mkH S.1 S.1.length (v_tu u) []]) S.1.length (S.2.1.getD (v_of u) 0) := by unfold h_step; rw [if_pos h1, if_neg (by omega)]
      rw [es] at hp ⊢
      have nn := nput_le us
      obtain ⟨a1, a2⟩ := new_tb i1 (t := v_tu u) (by omega)
      have p := Px.snoc S.1 (mkH S.1 S.1.length (v_tu u) [])
      have al : (S.1 ++ [mkH S.1 S.1.length (v_tu u) []]).length = S.1.length + 1 := by rw [List.length_append]; rfl
      have bl := (bo2 _ ho1).2.2.2
      obtain ⟨b1, b2, -⟩ := join_tb a1 hlaw a2 (g1.px p) (by rw [List.length_singleton]; omega)
      have pB : Px (S.1 ++ [mkH S.1 S.1.length (v_tu u) []]) B := b2.trans hp
      have pBl := pB.len
      have zg : a_g B S.1.length = mkH S.1 S.1.length (v_tu u) [] := by rw [pB.g (by omega)]; exact a_g_new
      have zt : tn B S.1.length = v_tu u := by rw [tn, zg]; rfl
      obtain ⟨m1, c1, c2, c3⟩ := r_heap (a := S.1.length) (k := -1) h (by have := hS.1; omega) (by have := i1.1; omega) (by omega) (by rw [zg]; rfl) (by rw [zt]; exact hJ h1) (by rw [zg]; rfl)
      rw [zt] at c1
      have hS1 : Sm (S.1 ++ [mkH S.1 S.1.length (v_tu u) []]) B (g_H G ++ [S.1.length], g_T G, g_L G) := hS.step (A' := S.1 ++ [mkH S.1 S.1.length (v_tu u) []]) (by rw [al]; exact c3) (by omega)
      have hx := a2.len a1
      have hy := (g1.px p).len a1
      rw [List.length_singleton] at hx
      obtain ⟨r', m', G', d1, d2, d3, d4, d5⟩ := r_join (A := S.1 ++ [mkH S.1 S.1.length (v_tu u) []]) (x := S.1.length) (y := S.2.1.getD (v_of u) 0) (rx := ((g_H G).length : Int)) (ry := m 77 (v_of u)) c2 a1 hlaw a2.or (g1.px p).or (by omega) hp hS1 (by show g_L G + 40 ≤ 40000; omega) (Or.inr ⟨_, rfl, get_new _ _⟩) (c3.hp hto)
      refine ⟨r', m', G', ?_, d2, (Gx.tr (b := S.1.length + 1) c3 (by rw [al] at d3; exact d3) (by omega) (by have := b2.len; omega)).cast (by omega), d4, by have d5 : g_L G' ≤ g_L G + 40 := d5; omega⟩
      unfold J_X11_makesAll_136
      rw [hp_eq_f (by omega) hx2 (by have : ¬ (us.length : Int) = x2 := fun e => c (hw2.mp e); omega), hp_ald (by omega) (by omega), e96, M4, c1, hp_b, d1, hp_b, hp_ast (by omega) (by omega), Int.toNat_natCast]
  · obtain ⟨g1, -⟩ := i5 _ ho1
    obtain ⟨k1, -⟩ := i5 _ ho2
    have bl1 := (bo2 _ ho1).2.2.2
    have bl2 := (bo2 _ ho2).2.2.2
    have M2 : m 66 (36 + us.length) = (v_of u : Int) := by rw [M2, if_neg (by omega)]
    have M3 : m 66 (66 + us.length) = (v_ot u : Int) := by rw [M3, if_pos h2]
    have es : h_step law w S u = s_join law S.1 (S.2.1.getD (v_of u) 0) (S.2.1.getD (v_ot u) 0) := by unfold h_step; rw [if_neg (by omega), if_pos h2]
    rw [es] at hp ⊢
    have hx := g1.len i1
    have hy := k1.len i1
    obtain ⟨r', m', G', d1, d2, d3, d4, d5⟩ := r_join (A := S.1) (rx := m 77 (v_of u)) (ry := m 77 (v_ot u)) h i1 hlaw g1.or k1.or (by omega) hp hS (by omega) (ht _ ho1) (ht _ ho2)
    refine ⟨r', m', G', ?_, d2, d3, d4, by omega⟩
    rw [hp_eq_f (by omega) (by decide) (by omega), hp_ald (by omega) (by omega), e36, M2, hp_ald (by omega) (by omega), Int.toNat_natCast]
    unfold J_X11_makesAll_62
    rw [hp_ald (by omega) (by omega), e6, M1, hp_tsw (i := 1) (by omega) (by omega) (by simp), gd1]
    rw [hp_ald (by omega) (by omega), e66, M3, hp_ald (by omega) (by omega), Int.toNat_natCast, d1, hp_b, hp_ast (by omega) (by omega), Int.toNat_natCast]
  · obtain ⟨g1, -⟩ := i5 _ ho1
    have M2 : m 66 (36 + us.length) = (v_of u : Int) := by rw [M2, if_neg (by omega)]
    have es : h_step law w S u = s_take law S.1 (S.2.1.getD (v_of u) 0) := by unfold h_step; rw [if_neg (by omega), if_neg (by omega), if_pos h3]
    rw [es] at hp ⊢
    obtain ⟨r', m', G', d1, d2, d3, d4, d5⟩ := r_take (A := S.1) (rx := m 77 (v_of u)) h i1 hlaw g1.or hp hS (by omega) (ht _ ho1)
    refine ⟨r', m', G', ?_, d2, d3, d4, by omega⟩
    rw [hp_eq_f (by omega) (by decide) (by omega), hp_ald (by omega) (by omega), e36, M2, hp_ald (by omega) (by omega), Int.toNat_natCast]
    unfold J_X11_makesAll_62
    rw [hp_ald (by omega) (by omega), e6, M1, hp_tsw (i := 2) (by omega) (by omega) (by simp), gd2]
    rw [d1, hp_b, hp_ast (by omega) (by omega), Int.toNat_natCast]
def Fm (m m' : hMem) : Prop := (∀ k, k ≠ 65 → k < 69 ∨ 78 < k → m' k = m k) ∧ ∀ j, j ≠ 13 → j ≠ 18 → j ≠ 21 → j ≠ 22 → m' 65 j = m 65 j
theorem Fm.refl (m : hMem) : Fm m m := ⟨fun _ _ _ => rfl, fun _ _ _ _ _ => rfl⟩
theorem Fm.trans {m1 m2 m3 : hMem} (h1 : Fm m1 m2) (h2 : Fm m2 m3) : Fm m1 m3 := ⟨fun k a b => (h2.1 k a b).trans (h1.1 k a b), fun j a b c d => (h2.2 j a b c d).trans (h1.2 j a b c d)⟩
theorem Gx.fm {P : Nat → Prop} {n : Int} {m m' : hMem} {G G' : hG} (h : Gx P n m G m' G') : Fm m m' := ⟨fun k a b => h.k a (by omega), h.2.2.2.2.2.1⟩
theorem Fm.up {m m1 : hMem} {k j : Nat} {v : Int} (h : Fm m m1) (hk : k = 77 ∨ k = 78) : Fm m (hv_up m1 k j v) := ⟨fun k' a b => by rw [hp_up_kk _ _ _ (by omega)]; exact h.1 k' a b, fun i a b c d => by rw [hp_up_k _ _ _ _ (by omega)]; exact h.2 i a b c d⟩
/-- all versions stand -/
def Rt (law w : Nat) (vs : List hVr) (G : hG) (m : hMem) : Prop := Rel (h_all law w vs).1 vs G m ∧ Nd (h_all law w vs).1 G ∧ g_L G ≤ 240 * vs.length ∧ ∀ j, j < vs.length → Hp G (m 77 j) ((h_all law w vs).2.1.getD j 0) ∧ m 78 j = ((h_all law w vs).2.2.getD j 0 : Int)
theorem jt_take {vs : List hVr} {t : Nat} (n : Nat) (h : Jt (vs.take n) t) : Jt vs t := by
  obtain ⟨h1, c, h2, h3⟩ := h
  have e : vs.take n ++ vs.drop n = vs := List.take_append_drop n vs
  refine ⟨by rw [← e, nput_app]; omega, c, ?_, h3⟩
  rw [← e, jl_app]
  have hl : t % 30 < (jl (vs.take n)).length := by rw [jl_len]; exact h1
  rw [List.getElem?_append_left hl]
  exact h2
theorem r_makesL {law w : Nat} {vs : List hVr} (hlaw : law = 0 ∨ law = 1) (ho : Os vs) {x2 : Int} (hx2 : hv_R32 x2) (hw2 : ∀ v : Nat, v < vs.length → ((v : Int) = x2 ↔ v = w)) : ∀ (d n v : Nat) {G : hG} {m : hMem}, v + d = vs.length → d < n → Rel (h_all law w vs).1 vs G m → Nd (h_all law w (vs.take v)).1 G → g_L G ≤ 240 * v → (∀ j, j < v → Hp G (m 77 j) ((h_all law w vs).2.1.getD j 0) ∧ m 78 j = ((h_all law w vs).2.2.getD j 0 : Int)) →
    ∃ m' G', L_X11_makesAll_17 n (law : Int) x2 (v : Int) m = some (0, m') ∧ Rt law w vs G' m' ∧ Fm m m'
  | _, 0, _, _, _, _, hn, _, _, _, _ => by omega
  | 0, n + 1, v, G, m, hv, hn, h, hN, hL, ht => by
    have h30 := ho.1
    have ev : v = vs.length := by omega
    subst ev
    rw [List.take_length] at hN
    refine ⟨m, G, ?_, ⟨h, hN, hL, ht⟩, Fm.refl m⟩
    show B_X11_makesAll_17 (L_X11_makesAll_17 n) (law : Int) x2 (vs.length : Int) m = _
    unfold B_X11_makesAll_17
    rw [hp_ald (by decide) (by decide), show m 66 (2 : Int).toNat = (vs.length : Int) from h.2.2.2.2.1.1, hp_lt_f (by omega) (by omega) (by omega)]
    rfl
  | d + 1, n + 1, v, G, m, hv, hn, h, hN, hL, ht => by
    have h30 := ho.1
    have hvl : v < vs.length := by omega
    obtain ⟨u, hu⟩ : ∃ u, vs[v]? = some u := ⟨_, List.getElem?_eq_getElem hvl⟩
    have et : vs.take (v + 1) = vs.take v ++ [u] := by rw [List.take_add_one, hu]; rfl
    have hl : (vs.take v).length = v := by rw [List.length_take]; omega
    have hos : Os (vs.take v ++ [u]) := by rw [← et]; exact os_take ho _
    have eh : h_all law w (vs.take (v + 1)) = h_add law w (h_all law w (vs.take v)) u := by rw [et, h_snoc]
    have e1 : (h_all law w (vs.take (v + 1))).1 = (h_step law w (h_all law w (vs.take v)) u).1 := by rw [eh]; rfl
    have px1 := h_px hlaw w vs ho (v + 1) (by omega)
    have px0 := h_px hlaw w vs ho v (by omega)
    have hB := (hi_all hlaw w vs ho).2.2.2.1
    obtain ⟨m2, em2⟩ : ∃ m2 : hMem, m2 = hv_up m 65 22 0 := ⟨_, rfl⟩
    have k2 : ∀ k, k ≠ 65 → m2 k = m k := fun k hk => by rw [em2, hp_up_kk _ _ _ hk]
    have R2 : Rel (h_all law w vs).1 vs G m2 := h.up22 k2 (fun j hj => by rw [em2, hp_up_j _ _ _ (by omega)])
    have hMv := h.2.2.2.2.1.2.2.1 v u hu
    have hMv2 : Mv vs (vs.take v).length u m2 := by rw [hl]; unfold Mv; rw [k2 66 (by omega)]; exact hMv
    obtain ⟨-, -, hOv⟩ := os_snoc.mp hos
    have hJ : v_how u = 1 → Jt vs (v_tu u) := fun c => by
      rcases hOv with h0 | ⟨c1, -, c2, c3, c4, -⟩ | ⟨c2, -⟩ | ⟨c3, -⟩
      · omega
      · have := ov_new (vs := vs.take v) (v := u) (by omega) c c2 ⟨c3, c4⟩
        rw [← et] at this
        exact jt_take _ this
      · omega
      · omega
    obtain ⟨r, m3, G3, a1, a2, a3, a4, a5⟩ := r_vstep (us := vs.take v) (u := u) (B := (h_all law w vs).1) (w := w) (x2 := x2) hlaw hos hx2 (by rw [hl]; exact hw2 v hvl) (by rw [← e1]; exact px1.1) (by omega) R2 hN (by omega) (fun j hj => by rw [hl] at hj; rw [k2 77 (by omega), (px0.2 j hj).1]; exact (ht j hj).1) hMv2 hJ (L_X11_makesAll_17 n)
    rw [hl] at a1
    obtain ⟨m5, em5⟩ : ∃ m5 : hMem, m5 = hv_up (hv_up m3 77 v r) 78 v (m3 65 22) := ⟨_, rfl⟩
    have k5 : ∀ k, k ≠ 77 → k ≠ 78 → m5 k = m3 k := fun k a b => by rw [em5, hp_up_kk _ _ _ b, hp_up_kk _ _ _ a]
    have R5 : Rel (h_all law w vs).1 vs G3 m5 := a2.eq' (fun k hk => k5 k (by omega) (by omega)) (fun j _ => by rw [k5 65 (by omega) (by omega)])
    have lk : m3 65 22 = ((h_step law w (h_all law w (vs.take v)) u).2.2 : Int) := by
      rw [a3.2.2.2.2.2.2, em2, hp_up_same]; omega
    have N5 : Nd (h_all law w (vs.take (v + 1))).1 G3 := by
      have := (h_px hlaw w (vs.take (v + 1)) (os_take ho _) v (by rw [List.length_take]; omega)).1
      rw [List.take_take, Nat.min_eq_left (by omega)] at this
      exact hN.step (by rw [e1]; exact a3) this.len
    have F25 : Fm m m5 := by
      have F2 : Fm m m2 := ⟨fun k a _ => k2 k a, fun j _ _ _ a => by rw [em2, hp_up_j _ _ _ a]⟩
      rw [em5]
      exact ((F2.trans a3.fm).up (Or.inl rfl)).up (Or.inr rfl)
    have s1 : (h_all law w (vs.take v)).2.1.length = v := by rw [(hi_all hlaw w (vs.take v) (os_take ho _)).2.1, hl]
    have s2 : (h_all law w (vs.take v)).2.2.length = v := by rw [(hi_all hlaw w (vs.take v) (os_take ho _)).2.2.1, hl]
    have tops : ∀ j, j < v + 1 → Hp G3 (m5 77 j) ((h_all law w vs).2.1.getD j 0) ∧ m5 78 j = ((h_all law w vs).2.2.getD j 0 : Int) := fun j hj => by
      by_cases c : j < v
      · have t := ht j c
        rw [em5, hp_up_k _ _ _ _ (by omega), hp_up_j _ _ _ (by omega), hp_up_j _ _ _ (by omega), hp_up_k _ _ _ _ (by omega), a3.k (by omega) (by omega), a3.k (by omega) (by omega), k2 77 (by omega), k2 78 (by omega)]
        exact ⟨a3.hp t.1, t.2⟩
      · have ej : j = v := by omega
        subst ej
        have q := px1.2 j (by omega)
        rw [eh] at q
        have q1 : ((h_all law w (vs.take j)).2.1 ++ [(h_step law w (h_all law w (vs.take j)) u).2.1]).getD j 0 = (h_all law w vs).2.1.getD j 0 := q.1
        have q2 : ((h_all law w (vs.take j)).2.2 ++ [(h_step law w (h_all law w (vs.take j)) u).2.2]).getD j 0 = (h_all law w vs).2.2.getD j 0 := q.2
        have z1 := getD_snoc (h_all law w (vs.take j)).2.1 (h_step law w (h_all law w (vs.take j)) u).2.1 0
        have z2 := getD_snoc (h_all law w (vs.take j)).2.2 (h_step law w (h_all law w (vs.take j)) u).2.2 0
        rw [s1] at z1
        rw [s2] at z2
        rw [← q1, ← q2, z1, z2, em5, hp_up_k _ _ _ _ (by omega), hp_up_same, hp_up_same, lk]
        exact ⟨a4, rfl⟩
    obtain ⟨m', G', b1, b2, b3⟩ := r_makesL hlaw ho hx2 hw2 d n (v + 1) (G := G3) (m := m5) (by omega) (by omega) R5 N5 (by omega) tops
    refine ⟨m', G', ?_, b2, F25.trans b3⟩
    show B_X11_makesAll_17 (L_X11_makesAll_17 n) (law : Int) x2 (v : Int) m = _
    unfold B_X11_makesAll_17
    have e22 : hv_up m3 77 v r 65 22 = m3 65 22 := hp_up_k _ _ _ _ (by omega)
    rw [hp_ald (by decide) (by decide), show m 66 (2 : Int).toNat = (vs.length : Int) from h.2.2.2.2.1.1, hp_lt_t (by omega) (by omega) (by omega), hp_put, ← em2, hp_ald (by omega) (by omega), show ((6 : Int) + (v : Int)).toNat = 6 + v by omega, show m2 66 (6 + v) = (v_how u : Int) by rw [k2 66 (by omega)]; exact hMv.1, a1]
    unfold J_X11_makesAll_193
    rw [hp_ast (by omega) (by omega), Int.toNat_natCast, e22, ← em5, hp_set]
    exact b1
theorem r_makes_all {law w : Nat} {vs : List hVr} {m : hMem} (hlaw : law = 0 ∨ law = 1) (ho : Os vs) (hM : RM vs m) {x2 : Int} (hx2 : hv_R32 x2) (hw2 : ∀ v : Nat, v < vs.length → ((v : Int) = x2 ↔ v = w)) : ∃ m' G', f_X11_makesAll (law : Int) x2 m = some (0, m') ∧ Rt law w vs G' m' ∧ Fm m m' := by
  obtain ⟨m1, em1⟩ : ∃ m1 : hMem, m1 = hv_up (hv_up (hv_up m 65 13 0) 65 18 0) 65 21 0 := ⟨_, rfl⟩
  have k1 : ∀ k, k ≠ 65 → m1 k = m k := fun k hk => by rw [em1, hp_up_kk _ _ _ hk, hp_up_kk _ _ _ hk, hp_up_kk _ _ _ hk]
  have R1 : Rel (h_all law w vs).1 vs ([], [], 0) m1 := ⟨by rw [em1, hp_up_j _ _ _ (by omega), hp_up_j _ _ _ (by omega), hp_up_same]; rfl, by rw [em1, hp_up_j _ _ _ (by omega), hp_up_same]; rfl, by rw [em1, hp_up_same]; rfl, ⟨Nat.zero_le _, Nat.zero_le _, Nat.zero_le _⟩, hM.eq (k1 66 (by omega)), ho.1, fun i a hi => absurd (get_lt hi) (Nat.not_lt_zero _), fun i a hi => absurd (get_lt hi) (Nat.not_lt_zero _)⟩
  have F1 : Fm m m1 := ⟨fun k a _ => k1 k a, fun j a b c _ => by rw [em1, hp_up_j _ _ _ c, hp_up_j _ _ _ b, hp_up_j _ _ _ a]⟩
  have h30 := ho.1
  obtain ⟨m', G', b1, b2, b3⟩ := r_makesL (w := w) hlaw ho hx2 hw2 vs.length hv_FU 0 (G := ([], [], 0)) (m := m1) (by omega) (fu_lt (by omega)) R1 ⟨List.nodup_nil, List.nodup_nil, (fun x hx => by cases hx), (fun x hx => by cases hx)⟩ (Nat.zero_le _) (fun j hj => by omega)
  refine ⟨m', G', ?_, b2, F1.trans b3⟩
  unfold f_X11_makesAll
  rw [hp_put, hp_put, hp_put, ← em1]
  exact b1
