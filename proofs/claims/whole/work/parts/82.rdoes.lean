/-! the reference: asking -/
def FA (m m' : hMem) : Prop := (∀ k, k ≠ 65 → k < 69 → m' k = m k) ∧ ∀ j, j = 3 ∨ j = 4 ∨ j = 5 → m' 65 j = m 65 j
theorem FA.refl (m : hMem) : FA m m := ⟨fun _ _ _ => rfl, fun _ _ => rfl⟩
theorem FA.trans {m1 m2 m3 : hMem} (h1 : FA m1 m2) (h2 : FA m2 m3) : FA m1 m3 := ⟨fun k a b => (h2.1 k a b).trans (h1.1 k a b), fun j a => (h2.2 j a).trans (h1.2 j a)⟩
theorem Fm.fa {m m' : hMem} (h : Fm m m') : FA m m' := ⟨fun k a b => h.1 k a (by omega), fun j hj => h.2 j (by omega) (by omega) (by omega) (by omega)⟩
theorem FA.of {m m' : hMem} (h : ∀ k, k < 69 → m' k = m k) : FA m m' := ⟨fun k _ b => h k b, fun j _ => by rw [h 65 (by omega)]⟩
theorem FA.ri {S : hS} {m m' : hMem} (f : FA m m') (h : RI S m) : RI S m' := h.eq (f.1 66 (by omega) (by omega)) (f.1 68 (by omega) (by omega)) f.2
theorem FA.fr {m m' : hMem} (f : FA m m') : FR m m' := fun k hk => f.1 k (by omega) (by omega)
theorem AV.law {S : hS} (hA : AV S) : s_la S = 0 ∨ s_la S = 1 := by have := hA.2.1; omega
section
variable {S : hS} {m : hMem}
theorem r_isV (hA : AV S) (h : RI S m) {x : Int} (hx : hv_R32 x) : f_X11_isVersion x m = some (if 0 ≤ x ∧ x < ((s_vs S).length : Int) then 1 else 0, m) := by
  have h30 := hA.1.1
  unfold f_X11_isVersion
  rw [hp_rg hx, hp_ald (by decide) (by decide), show m 66 (2 : Int).toNat = ((s_vs S).length : Int) from h.2.2.2.2.1.1, hp_rg (by omega), fe_in hx (by decide) (by omega), hp_b]
  by_cases c : 0 ≤ x ∧ x < ((s_vs S).length : Int)
  · rw [if_pos c, if_pos (by omega), hp_zr1]
  · rw [if_neg c, if_neg (by omega), hp_zr0]
theorem r_mkAll (hA : AV S) (h : RI S m) {law : Nat} (hlaw : law = 0 ∨ law = 1) : ∃ m' G, f_X11_makesAll (law : Int) (-1) m = some (0, m') ∧ Rt law 99 (s_vs S) G m' ∧ FA m m' := by
  have h30 := hA.1.1
  obtain ⟨m', G, a1, a2, a3⟩ := r_makes_all (law := law) (w := 99) (vs := s_vs S) (m := m) hlaw hA.1 h.2.2.2.2.1 (x2 := -1) (by decide) (fun v hv => by omega)
  exact ⟨m', G, a1, a2, a3.fa⟩
theorem r_heapOf (hA : AV S) (h : RI S m) {j : Nat} (hj : j < (s_vs S).length) : ∃ m' G, f_X11_heapOf (j : Int) m = some (m' 77 j, m') ∧ Rt (s_la S) 99 (s_vs S) G m' ∧ FA m m' := by
  have h30 := hA.1.1
  obtain ⟨m', G, a1, a2, a3⟩ := r_mkAll hA h hA.law
  refine ⟨m', G, ?_, a2, a3⟩
  unfold f_X11_heapOf
  rw [hp_ald (by decide) (by decide), show m 66 (0 : Int).toNat = (s_la S : Int) from h.1, a1, hp_b, hp_ald (by omega) (by omega), Int.toNat_natCast]
  rfl
/-- the bag of a version -/
def bag (vs : List hVr) (j : Nat) : List Nat := (b_all 99 vs).getD j []
def h_top (law : Nat) (vs : List hVr) (j : Nat) : Nat := (h_all law 99 vs).2.1.getD j 0
theorem bag_ok (hA : AV S) {j : Nat} (hj : j < (s_vs S).length) : So (bag (s_vs S) j) ∧ (bag (s_vs S) j).length ≤ 24 ∧ ∀ t ∈ bag (s_vs S) j, Jt (s_vs S) t := by
  obtain ⟨b1, b2, b3, -⟩ := (bo_all 99 (s_vs S) hA.1).1.2 j hj
  exact ⟨b1, b2, b3⟩
end
section
variable {vs : List hVr} {R36 : Int → Int → Int → hMem → hRs}
def d_fin (R36 : Int → Int → Int → hMem → hRs) (x2 x3 x4 x5 : Int) (mem : hMem) : hRs := hv_ald mem 83 8 x5 (fun v1 => hv_ald mem 80 54 x4 (fun v2 => hv_ald mem 66 216 (156 + v2) (fun v3 => hv_ast mem 83 8 x5 (v1 + v3) (fun m4 => hv_ast m4 84 54 x4 x5 (fun m5 => hv_ald m5 83 8 x5 (fun v6 => hv_ast m5 85 54 x4 v6 (fun m7 => hv_set (x4 + 1) (fun y8 => R36 x2 x3 y8 m7))))))))
theorem r_does48 {fr : Nat → Nat} {H : Nat} {x3 x4 : Int} {m : hMem} (hf : ∀ h, h < H → m 83 h = (fr h : Int)) (hM : ∀ h, fr h ≤ 100000) (H8 : H ≤ 8) : ∀ (d n b h : Nat), h + d = H → d < n → b < H → L_X11_does_48 R36 n (H : Int) x3 x4 (b : Int) (h : Int) m = d_fin R36 (H : Int) x3 x4 ((bsL fr d b h : Nat) : Int) m
  | _, 0, _, _, _, hn, _ => by omega
  | 0, n + 1, b, h, hh, hn, hb => by
    show B_X11_does_48 R36 (L_X11_does_48 R36 n) (H : Int) x3 x4 (b : Int) (h : Int) m = _
    unfold B_X11_does_48
    rw [hp_lt_f (by omega) (by omega) (by omega)]
    rfl
  | d + 1, n + 1, b, h, hh, hn, hb => by
    have f1 := hM h
    have f2 := hM b
    show B_X11_does_48 R36 (L_X11_does_48 R36 n) (H : Int) x3 x4 (b : Int) (h : Int) m = _
    unfold B_X11_does_48
    rw [hp_lt_t (by omega) (by omega) (by omega), hp_ald (by omega) (by omega), hp_ald (by omega) (by omega), Int.toNat_natCast, Int.toNat_natCast, hf h (by omega), hf b (by omega)]
    show _ = d_fin R36 (H : Int) x3 x4 ((bsL fr d (if fr h < fr b then h else b) (h + 1) : Nat) : Int) m
    by_cases c : fr h < fr b
    · rw [hp_lt_t (by omega) (by omega) (by omega), hp_set, if_pos c]
      exact r_does48 hf hM H8 d n h (h + 1) (by omega) (by omega) (by omega)
    · rw [hp_lt_f (by omega) (by omega) (by omega), hp_set, if_neg c]
      exact r_does48 hf hM H8 d n b (h + 1) (by omega) (by omega) hb
theorem r_does36 {l : List Nat} {H : Nat} (h30 : vs.length ≤ 30) (hl : ∀ t ∈ l, Jt vs t) (H1 : 1 ≤ H) (H8 : H ≤ 8) : ∀ (r p : List Nat) (n M : Nat) (fr : Nat → Nat) (m : hMem), r.length < n → l = p ++ r → Row l m → RM vs m → (∀ h, h < H → m 83 h = (fr h : Int)) → (∀ h, fr h ≤ M) → M + 99 * r.length ≤ 90000 →
    ∃ m', L_X11_does_36 n (H : Int) (l.length : Int) (p.length : Int) m = some ((l.length : Int), m') ∧ (∀ i, i < r.length → m' 84 (p.length + i) = (((wkL (tmv vs) H r fr).getD i (0, 0)).1 : Int) ∧ m' 85 (p.length + i) = (((wkL (tmv vs) H r fr).getD i (0, 0)).2 : Int)) ∧ (∀ i, i < p.length → m' 84 i = m 84 i ∧ m' 85 i = m 85 i) ∧ ∀ k, k < 83 ∨ 85 < k → m' k = m k
  | _, _, 0, _, _, _, hn, _, _, _, _, _, _ => by omega
  | [], p, n + 1, M, fr, m, hn, e, hR, hM, hf, hfM, hMM => by
    have l24 := hR.1
    have el := congrArg List.length e
    rw [List.append_nil] at el
    refine ⟨m, ?_, fun i hi => by simp at hi, fun i _ => ⟨rfl, rfl⟩, fun _ _ => rfl⟩
    show B_X11_does_36 (L_X11_does_36 n) (H : Int) (l.length : Int) (p.length : Int) m = _
    unfold B_X11_does_36
    rw [hp_lt_f (by omega) (by omega) (by omega)]
    rfl
  | t :: r, p, n + 1, M, fr, m, hn, e, hR, hM, hf, hfM, hMM => by
    have l24 := hR.1
    have el := congrArg List.length e
    rw [List.length_append, List.length_cons] at el
    simp only [List.length_cons] at hn hMM
    have ht := hl t (by rw [e]; simp)
    have t99 := tm_99 vs t
    have tj := tm_jt ht
    have t30 : t % 30 < 30 := Nat.mod_lt _ (by decide)
    have hb := hfM (w_b fr H)
    have bl := wb_lt fr H1
    have e80 : m 80 p.length = ((t % 30 : Nat) : Int) := by rw [hR.2 p.length (by omega), e, getD_mid]
    have e156 := (hM.2.2.2 _ _ _ tj).2
    have s48 := r_does48 (R36 := L_X11_does_36 n) (x3 := (l.length : Int)) (x4 := (p.length : Int)) hf (fun h => Nat.le_trans (hfM h) (by omega)) H8 (H - 1) hv_FU 0 1 (by omega) (fu_lt (by omega)) (by omega)
    obtain ⟨b, hbd⟩ : ∃ b, b = w_b fr H := ⟨_, rfl⟩
    have s48 : L_X11_does_48 (L_X11_does_36 n) hv_FU (H : Int) (l.length : Int) (p.length : Int) 0 1 m = d_fin (L_X11_does_36 n) (H : Int) (l.length : Int) (p.length : Int) (b : Int) m := by rw [hbd]; exact s48
    rw [← hbd] at hb bl
    obtain ⟨m7, em7⟩ : ∃ m7 : hMem, m7 = hv_up (hv_up (hv_up m 83 b ((fr b + tmv vs t : Nat) : Int)) 84 p.length (b : Int)) 85 p.length ((fr b + tmv vs t : Nat) : Int) := ⟨_, rfl⟩
    have k7 : ∀ k, k < 83 ∨ 85 < k → m7 k = m k := fun k hk => by rw [em7, hp_up_kk _ _ _ (by omega), hp_up_kk _ _ _ (by omega), hp_up_kk _ _ _ (by omega)]
    have o84 : ∀ i, i ≠ p.length → m7 84 i = m 84 i ∧ m7 85 i = m 85 i := fun i hi => by
      rw [em7, hp_up_k _ _ _ _ (by omega), hp_up_j _ _ _ hi, hp_up_k _ _ _ _ (by omega), hp_up_j _ _ _ hi, hp_up_k _ _ _ _ (by omega), hp_up_k _ _ _ _ (by omega)]
      exact ⟨rfl, rfl⟩
    obtain ⟨m', b1, b2, b3, b4⟩ := r_does36 h30 hl H1 H8 r (p ++ [t]) n (M + 99) (u_fr fr b (fr b + tmv vs t)) m7 (by omega) (by rw [e]; simp) ⟨hR.1, fun i hi => by rw [k7 80 (by omega)]; exact hR.2 i hi⟩ (hM.eq (k7 66 (by omega))) (fun h hh => by
      rw [em7, hp_up_k _ _ _ _ (by omega), hp_up_k _ _ _ _ (by omega)]
      unfold u_fr
      by_cases c : h = b
      · rw [c, hp_up_same, if_pos rfl]
      · rw [hp_up_j _ _ _ c, if_neg c]; exact hf h hh) (fun h => by
      unfold u_fr
      have := hfM h
      split <;> omega) (by omega)
    have pl : (p ++ [t]).length = p.length + 1 := by rw [List.length_append]; rfl
    rw [pl] at b1 b2 b3
    refine ⟨m', ?_, fun i hi => ?_, fun i hi => by rw [(b3 i (by omega)).1, (b3 i (by omega)).2]; exact o84 i (by omega), fun k hk => by rw [b4 k hk, k7 k hk]⟩
    · show B_X11_does_36 (L_X11_does_36 n) (H : Int) (l.length : Int) (p.length : Int) m = _
      unfold B_X11_does_36
      rw [hp_lt_t (by omega) (by omega) (by omega), s48]
      unfold d_fin
      rw [hp_ald (by omega) (by omega), hp_ald (by omega) (by omega), Int.toNat_natCast, Int.toNat_natCast, hf b bl, e80, hp_ald (by omega) (by omega), show ((156 : Int) + ((t % 30 : Nat) : Int)).toNat = 156 + t % 30 by omega, e156, hp_ast (by omega) (by omega), hp_ast (by omega) (by omega), hp_ald (by omega) (by omega), Int.toNat_natCast, Int.toNat_natCast]
      rw [show (fr b : Int) + (tmv vs t : Int) = ((fr b + tmv vs t : Nat) : Int) by omega]
      rw [show hv_up (hv_up m 83 b ((fr b + tmv vs t : Nat) : Int)) 84 p.length (b : Int) 83 b = ((fr b + tmv vs t : Nat) : Int) by rw [hp_up_k _ _ _ _ (by omega), hp_up_same]]
      rw [hp_ast (by omega) (by omega), Int.toNat_natCast, ← em7, hp_set]
      exact b1
    · rw [List.length_cons] at hi
      show m' 84 (p.length + i) = ((((w_b fr H, fr (w_b fr H) + tmv vs t) :: wkL (tmv vs) H r (u_fr fr (w_b fr H) (fr (w_b fr H) + tmv vs t))).getD i (0, 0)).1 : Int) ∧ m' 85 (p.length + i) = ((((w_b fr H, fr (w_b fr H) + tmv vs t) :: wkL (tmv vs) H r (u_fr fr (w_b fr H) (fr (w_b fr H) + tmv vs t))).getD i (0, 0)).2 : Int)
      rw [← hbd]
      cases i with
      | zero =>
        have z := b3 p.length (by omega)
        rw [Nat.add_zero, z.1, z.2, em7, hp_up_k _ _ _ _ (by omega), hp_up_same, hp_up_same]
        exact ⟨rfl, rfl⟩
      | succ i =>
        have z := b2 i (by omega)
        rw [show p.length + (i + 1) = p.length + 1 + i by omega]
        exact z
theorem r_does13 {H N : Nat} (H8 : H ≤ 8) : ∀ (d n h : Nat) (m : hMem), h + d = H → d < n → ∃ m', L_X11_does_13 n (H : Int) (N : Int) (h : Int) m = L_X11_does_36 hv_FU (H : Int) (N : Int) 0 m' ∧ (∀ k, k ≠ 83 → m' k = m k) ∧ (∀ i, h ≤ i → i < H → m' 83 i = 0) ∧ ∀ i, i < h → m' 83 i = m 83 i
  | _, 0, _, _, _, hn => by omega
  | 0, n + 1, h, m, hh, hn => by
    refine ⟨m, ?_, fun _ _ => rfl, fun i a b => by omega, fun _ _ => rfl⟩
    show B_X11_does_13 (L_X11_does_13 n) (H : Int) (N : Int) (h : Int) m = _
    unfold B_X11_does_13
    rw [hp_lt_f (by omega) (by omega) (by omega)]
  | d + 1, n + 1, h, m, hh, hn => by
    obtain ⟨m', a1, a2, a3, a4⟩ := r_does13 (N := N) H8 d n (h + 1) (hv_up m 83 h 0) (by omega) (by omega)
    refine ⟨m', ?_, fun k hk => by rw [a2 k hk, hp_up_kk _ _ _ hk], fun i x y => ?_, fun i x => by rw [a4 i (by omega), hp_up_j _ _ _ (by omega)]⟩
    · show B_X11_does_13 (L_X11_does_13 n) (H : Int) (N : Int) (h : Int) m = _
      unfold B_X11_does_13
      rw [hp_lt_t (by omega) (by omega) (by omega), hp_ast (by omega) (by omega), Int.toNat_natCast, hp_set]
      exact a1
    · by_cases c : i = h
      · rw [c, a4 h (by omega), hp_up_same]
      · exact a3 i (by omega) y
end
/-- what lies behind does -/
def Dn (vs : List hVr) (H : Nat) (l : List Nat) (m : hMem) : Prop := Row l m ∧ ∀ i, i < l.length → m 84 i = (((ws_all vs H l).getD i (0, 0)).1 : Int) ∧ m 85 i = (((ws_all vs H l).getD i (0, 0)).2 : Int)
section
variable {S : hS} {m : hMem}
theorem Rt.tb {law : Nat} {vs : List hVr} {G : hG} {m : hMem} (ho : Os vs) (hlaw : law = 0 ∨ law = 1) (h : Rt law 99 vs G m) {j : Nat} (hj : j < vs.length) : Hp G (m 77 j) (h_top law vs j) ∧ Tb (h_all law 99 vs).1 (h_top law vs j) (bag vs j) ∧ Wf law (h_all law 99 vs).1 :=
  ⟨(h.2.2.2 j hj).1, ((hi_all hlaw 99 vs ho).2.2.2.2 j hj).1, (hi_all hlaw 99 vs ho).1⟩
theorem r_does (hA : AV S) (h : RI S m) {j H : Nat} (hj : j < (s_vs S).length) (H1 : 1 ≤ H) (H8 : H ≤ 8) : ∃ m', f_X11_does (j : Int) (H : Int) m = some (((bag (s_vs S) j).length : Int), m') ∧ Dn (s_vs S) H (bag (s_vs S) j) m' ∧ FA m m' := by
  have h30 := hA.1.1
  obtain ⟨b1, b2, b3⟩ := bag_ok hA hj
  obtain ⟨m1, G, a1, a2, a3⟩ := r_heapOf hA h hj
  obtain ⟨t1, t2, t3⟩ := a2.tb hA.1 hA.law hj
  obtain ⟨m2, c1, c2, c3⟩ := r_ordered t3 a2.1 t1 t2 b2 b3 b1
  obtain ⟨m3, d1, d2, d3, -⟩ := r_does13 (N := (bag (s_vs S) j).length) H8 H hv_FU 0 m2 (by omega) (fu_lt (by omega))
  have RM3 : RM (s_vs S) m3 := (a2.1.2.2.2.2.1.eq (c3 66 (by omega) (by omega))).eq (d2 66 (by omega))
  obtain ⟨m', e1, e2, e3, e4⟩ := r_does36 (vs := s_vs S) (l := bag (s_vs S) j) h30 b3 H1 H8 (bag (s_vs S) j) [] hv_FU 0 (fun _ => 0) m3 (fu_lt (by omega)) rfl ⟨c2.1, fun i hi => by rw [d2 80 (by omega)]; exact c2.2 i hi⟩ RM3 (fun h hh => d3 h (by omega) hh) (fun _ => Nat.le_refl _) (by omega)
  refine ⟨m', ?_, ⟨⟨c2.1, fun i hi => by rw [e4 80 (by omega), d2 80 (by omega)]; exact c2.2 i hi⟩, fun i hi => ?_⟩, a3.trans (FA.of (fun k hk => by rw [e4 k (by omega), d2 k (by omega), c3 k (by omega) (by omega)]))⟩
  · unfold f_X11_does
    rw [a1, hp_b, c1, hp_b]
    exact Eq.trans d1 e1
  · have z := e2 i hi
    rw [List.length_nil, Nat.zero_add] at z
    exact z
def sel4 (x : Int) (q : Nat × Nat × Nat × Nat) : Nat := if x = 0 then q.1 else if x = 1 then q.2.1 else if x = 2 then q.2.2.1 else q.2.2.2
theorem r_doneL {vs : List hVr} {l : List Nat} {ws : List (Nat × Nat)} {x : Int} {m : hMem} (hx : hv_R32 x) (h30 : vs.length ≤ 30) (hl : ∀ t ∈ l, Jt vs t) (hR : Row l m) (hM : RM vs m) (hw : ∀ i, i < l.length → m 85 i = ((ws.getD i (0, 0)).2 : Int)) (hle : ∀ w ∈ ws, w.2 ≤ 90000) : ∀ (r p : List Nat) (wr wp : List (Nat × Nat)) (n : Nat) (q : Nat × Nat × Nat × Nat), r.length < n → l = p ++ r → ws = wp ++ wr → wp.length = p.length → wr.length = r.length → q.1 ≤ 90000 → q.2.2.2 ≤ 90000 → L_X11_done_50 n x (l.length : Int) (q.1 : Int) (q.2.1 : Int) (q.2.2.1 : Int) (q.2.2.2 : Int) (p.length : Int) m = some ((sel4 x (st4 q r wr) : Int), m)
  | _, _, _, _, 0, _, hn, _, _, _, _, _, _ => by omega
  | [], p, wr, wp, n + 1, q, hn, e, ew, hp, hr, h1, h2 => by
    have l24 := hR.1
    have el := congrArg List.length e
    rw [List.append_nil] at el
    have es : st4 q [] wr = q := by cases wr <;> rfl
    rw [es]
    show B_X11_done_50 (L_X11_done_50 n) x (l.length : Int) (q.1 : Int) (q.2.1 : Int) (q.2.2.1 : Int) (q.2.2.2 : Int) (p.length : Int) m = _
    unfold B_X11_done_50 sel4
    rw [hp_lt_f (by omega) (by omega) (by omega)]
    by_cases c0 : x = 0
    · rw [hp_eq_t hx (by decide) c0, if_pos c0]; rfl
    · rw [hp_eq_f hx (by decide) (by omega), if_neg c0]
      by_cases c1 : x = 1
      · rw [hp_eq_t hx (by decide) c1, if_pos c1]; rfl
      · rw [hp_eq_f hx (by decide) (by omega), if_neg c1]
        by_cases c2 : x = 2
        · rw [hp_eq_t hx (by decide) c2, if_pos c2]; rfl
        · rw [hp_eq_f hx (by decide) (by omega), if_neg c2]; rfl
  | t :: r, p, [], wp, n + 1, q, hn, e, ew, hp, hr, h1, h2 => by simp at hr
  | t :: r, p, w :: wr, wp, n + 1, q, hn, e, ew, hp, hr, h1, h2 => by
    have l24 := hR.1
    have el := congrArg List.length e
    rw [List.length_append, List.length_cons] at el
    simp only [List.length_cons] at hn hr
    have ht := hl t (by rw [e]; simp)
    have tj := tm_jt ht
    have tl := ht.2.choose_spec.2.1
    have t30 : t % 30 < 30 := Nat.mod_lt _ (by decide)
    have e80 : m 80 p.length = ((t % 30 : Nat) : Int) := by rw [hR.2 p.length (by omega), e, getD_mid]
    have e126 := (hM.2.2.2 _ _ _ tj).1
    have w9 := hle w (by rw [ew]; simp)
    have e85 : m 85 p.length = (w.2 : Int) := by
      rw [hw p.length (by omega), ew, ← hp]
      rw [List.getD_eq_getElem?_getD, List.getElem?_append_right (Nat.le_refl _), Nat.sub_self]
      rfl
    have g := r_doneL hx h30 hl hR hM hw hle r (p ++ [t]) wr (wp ++ [w]) n (max q.1 w.2, (if t / 30 < w.2 then q.2.1 + 1 else q.2.1), q.2.2.1 + (w.2 - t / 30), max q.2.2.2 (w.2 - t / 30)) (by omega) (by rw [e]; simp) (by rw [ew]; simp) (by simp [hp]) (by omega) (by show max q.1 w.2 ≤ _; omega) (by show max q.2.2.2 (w.2 - t / 30) ≤ _; omega)
    have pl : (p ++ [t]).length = p.length + 1 := by rw [List.length_append]; rfl
    rw [pl] at g
    show B_X11_done_50 (L_X11_done_50 n) x (l.length : Int) (q.1 : Int) (q.2.1 : Int) (q.2.2.1 : Int) (q.2.2.2 : Int) (p.length : Int) m = some ((sel4 x (st4 (max q.1 w.2, (if t / 30 < w.2 then q.2.1 + 1 else q.2.1), q.2.2.1 + (w.2 - t / 30), max q.2.2.2 (w.2 - t / 30)) r wr) : Int), m)
    unfold B_X11_done_50 J_X11_done_111
    rw [hp_lt_t (by omega) (by omega) (by omega), hp_ald (by omega) (by omega), hp_ald (by omega) (by omega), Int.toNat_natCast, e85, e80, hp_ald (by omega) (by omega), show ((126 : Int) + ((t % 30 : Nat) : Int)).toNat = 126 + t % 30 by omega, e126, fe_max (by decide) (by omega), hp_b, hp_ald (by omega) (by omega), Int.toNat_natCast, e85, fe_max (by omega) (by omega), hp_b]
    rw [show max (0 : Int) ((w.2 : Int) - ((t / 30 : Nat) : Int)) = ((w.2 - t / 30 : Nat) : Int) by omega, show max (q.1 : Int) (w.2 : Int) = ((max q.1 w.2 : Nat) : Int) by omega]
    by_cases c : t / 30 < w.2
    · rw [if_pos c] at g ⊢
      rw [hp_lt_t (by decide) (by omega) (by omega), hp_set, hp_set, fe_max (by omega) (by omega), hp_b, hp_set, show (q.2.1 : Int) + 1 = ((q.2.1 + 1 : Nat) : Int) by omega, show (q.2.2.1 : Int) + ((w.2 - t / 30 : Nat) : Int) = ((q.2.2.1 + (w.2 - t / 30) : Nat) : Int) by omega, show max (q.2.2.2 : Int) ((w.2 - t / 30 : Nat) : Int) = ((max q.2.2.2 (w.2 - t / 30) : Nat) : Int) by omega]
      exact g
    · rw [if_neg c] at g ⊢
      rw [hp_lt_f (by decide) (by omega) (by omega), hp_set, hp_set, fe_max (by omega) (by omega), hp_b, hp_set, show (q.2.1 : Int) + 0 = ((q.2.1 : Nat) : Int) by omega, show (q.2.2.1 : Int) + ((w.2 - t / 30 : Nat) : Int) = ((q.2.2.1 + (w.2 - t / 30) : Nat) : Int) by omega, show max (q.2.2.2 : Int) ((w.2 - t / 30 : Nat) : Int) = ((max q.2.2.2 (w.2 - t / 30) : Nat) : Int) by omega]
      exact g
end
