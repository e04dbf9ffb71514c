/-! nodes stay well made -/
theorem mem_fm {A : hA} {f : hN → List Nat} {j : Nat} : ∀ {q : List Nat}, j ∈ fm A f q ↔ ∃ x ∈ q, j ∈ f (a_g A x)
  | [] => by simp [fm]
  | a :: l => by simp [fm, mem_fm (q := l)]
theorem mx_le {A : hA} {f g : hN → Nat} {k : Nat} : ∀ {q : List Nat}, (∀ x ∈ q, f (a_g A x) ≤ k * g (a_g A x)) → mx A f q ≤ k * su A g q
  | [], _ => by simp [mx]
  | a :: l, h => by
    have h1 := h a (by simp)
    have h2 := mx_le (k := k) (g := g) (q := l) (fun x hx => h x (by simp [hx]))
    show max _ _ ≤ k * (_ + _)
    rw [Nat.mul_add]
    omega
theorem su_len {A : hA} : ∀ {q : List Nat}, (∀ x ∈ q, n_holds (a_g A x) = (n_jobs (a_g A x)).length) → su A n_holds q = (fm A n_jobs q).length
  | [], _ => rfl
  | a :: l, h => by
    show _ + _ = (_ ++ _ : List Nat).length
    rw [List.length_append, ← h a (by simp), su_len (fun x hx => h x (by simp [hx]))]
theorem sx_px {A B : hA} (h : Px A B) {q : List Nat} (hq : Al A.length q) : Sx B q ↔ Sx A q := by
  unfold Sx
  apply List.Pairwise.iff_of_mem
  intro x y hx hy
  rw [rk, rk, rk, rk, h.g (hq x hx).2, h.g (hq y hy).2]
theorem qk_px {law : Nat} {A B : hA} (h : Px A B) {q : List Nat} (hq : Al A.length q) : Qk law A q → Qk law B q := by
  intro ⟨h1, h2, h3⟩
  refine ⟨fun e => (sx_px h hq).mpr (h1 e), (sx_px h (fun x hx => hq x (List.mem_of_mem_tail hx))).mpr h2, fun x y l e => ?_⟩
  have := h3 x y l e
  rw [rk, rk, h.g (hq x (by rw [e]; simp)).2, h.g (hq y (by rw [e]; simp)).2]
  exact this
theorem wn_px {law : Nat} {A B : hA} (h : Px A B) {a : Nat} (ha : a < A.length) (hw : Wn law A a) : Wn law B a := by
  obtain ⟨h1, h2, h3, h4, h5, h6, h7, h8, h9⟩ := hw
  have eg : ∀ x, x < A.length → a_g B x = a_g A x := fun x hx => h.g hx
  have ea := eg a ha
  refine ⟨?_, by rw [ea]; exact h2, by rw [ea]; exact h3, by rw [tn, ea]; exact h4, by rw [tn, ea]; exact h5, by rw [ea]; exact h6, by rw [ea]; exact h7, ?_, by rw [ea]; exact h9⟩
  · rcases h1 with ⟨t, q, e1, e2, e3, e4⟩ | ⟨r, x, sg, bl, e1, e2, e3, e4, e5, e6, e7⟩
    · have hq : Al A.length q := fun x hx => ⟨(e2 x hx).1, by have := (e2 x hx).2.1; omega⟩
      refine Or.inl ⟨t, q, by rw [ea, e1, mkH_px h hq], fun x hx => ?_, qk_px h hq e3, e4⟩
      obtain ⟨g1, g2, g3, g4⟩ := e2 x hx
      rw [tn, eg x (by omega)]
      exact ⟨g1, g2, g3, g4⟩
    · have hs : Al A.length sg := fun x hx => ⟨(e3 x hx).1, by have := (e3 x hx).2.1; omega⟩
      have hb : Al A.length bl := fun x hx => ⟨(e4 x hx).1, by have := (e4 x hx).2.1; omega⟩
      refine Or.inr ⟨r, x, sg, bl, by rw [ea, e1, mkT_px h (by omega) hs hb], ?_, fun y hy => ?_, fun y hy => ?_, ?_, e6, by rw [ea, eg x (by omega)]; exact e7⟩
      · rw [eg x (by omega)]; exact e2
      · obtain ⟨g1, g2, g3, g4⟩ := e3 y hy
        rw [tn, tn, eg y (by omega), eg x (by omega)]
        exact ⟨g1, g2, g3, g4⟩
      · obtain ⟨g1, g2, g3, g4⟩ := e4 y hy
        rw [tn, tn, eg y (by omega), eg x (by omega)]
        exact ⟨g1, g2, g3, g4⟩
      · rw [← e5]
        apply List.map_congr_left
        intro y hy
        rw [rk, rk, eg y (hb y hy).2]
  · rw [ea]
    intro x hx
    obtain ⟨g1, g2, g3⟩ := h8 x hx
    refine ⟨g1, g2, ?_⟩
    rw [eg x (by omega)]
    exact g3
theorem wf_snoc {law : Nat} {A : hA} {x : hN} (h : Wf law A) (hx : Wn law (A ++ [x]) A.length) : Wf law (A ++ [x]) := by
  obtain ⟨h1, h2, h3⟩ := h
  refine ⟨by simp, by rw [a_g_app (by omega)]; exact h2, fun a h0 ha => ?_⟩
  by_cases hl : a < A.length
  · exact wn_px (Px.snoc A x) hl (h3 a h0 hl)
  · have : a = A.length := by simp at ha; omega
    subst this
    exact hx
/-- trees -/
def Tl (A : hA) (q : List Nat) : Prop := ∀ x ∈ q, 0 < x ∧ x < A.length ∧ n_head (a_g A x) ≠ 0
def Hl (A : hA) (q : List Nat) : Prop := ∀ x ∈ q, 0 < x ∧ x < A.length ∧ n_head (a_g A x) = 0
theorem Tl.al {A : hA} {q : List Nat} (h : Tl A q) : Al A.length q := fun x hx => ⟨(h x hx).1, (h x hx).2.1⟩
theorem Hl.al {A : hA} {q : List Nat} (h : Hl A q) : Al A.length q := fun x hx => ⟨(h x hx).1, (h x hx).2.1⟩
theorem Tl.px {A B : hA} {q : List Nat} (h : Tl A q) (p : Px A B) : Tl B q := fun x hx => by
  obtain ⟨h1, h2, h3⟩ := h x hx
  have := p.len
  rw [p.g h2]
  exact ⟨h1, by omega, h3⟩
theorem Hl.px {A B : hA} {q : List Nat} (h : Hl A q) (p : Px A B) : Hl B q := fun x hx => by
  obtain ⟨h1, h2, h3⟩ := h x hx
  have := p.len
  rw [p.g h2]
  exact ⟨h1, by omega, h3⟩
theorem wf_len {law : Nat} {A : hA} (h : Wf law A) {q : List Nat} (hq : Al A.length q) : su A n_holds q = (fm A n_jobs q).length :=
  su_len (fun x hx => (h.2.2 x (hq x hx).1 (hq x hx).2).2.2.1)
theorem wf_newH {law : Nat} {A : hA} (h : Wf law A) {t : Nat} {q : List Nat} (hq : Tl A q) (ht : ∀ x ∈ q, t ≤ tn A x) (hk : Qk law A q) (h3 : t < 30000) (hs : (fm A n_jobs q).length ≤ 23) : Wf law (A ++ [mkH A A.length t q]) := by
  refine wf_snoc h ?_
  have p : Px A (A ++ [mkH A A.length t q]) := Px.snoc _ _
  have hl := wf_len h hq.al
  have ea : a_g (A ++ [mkH A A.length t q]) A.length = mkH A A.length t q := a_g_new
  have hw := fun x hx => h.2.2 x (hq x hx).1 (hq x hx).2.1
  refine ⟨Or.inl ⟨t, q, by rw [ea, mkH_px p hq.al], fun x hx => ?_, qk_px p hq.al hk, h3⟩, ?_, ?_, ?_, ?_, ?_, ?_, ?_, ?_⟩
  · obtain ⟨g1, g2, g3⟩ := hq x hx
    rw [tn, p.g g2]
    exact ⟨g1, g2, g3, ht x hx⟩
  · rw [ea]
    show 1 + su A n_holds q ≤ 24
    omega
  · rw [ea]
    show 1 + su A n_holds q = (t :: fm A n_jobs q).length
    rw [List.length_cons]
    omega
  · rw [tn, ea]
    show ∀ j ∈ t :: fm A n_jobs q, t ≤ j ∧ j < 30000
    intro j hj
    rcases List.mem_cons.mp hj with rfl | hj
    · exact ⟨Nat.le_refl _, h3⟩
    · obtain ⟨x, hx, hjx⟩ := mem_fm.mp hj
      have g := (hw x hx).2.2.2.1 j hjx
      exact ⟨Nat.le_trans (ht x hx) g.1, g.2⟩
  · rw [tn, ea]
    exact List.mem_cons_self
  · rw [ea]
    show 1 + mx A n_deep q ≤ 1 + su A n_holds q
    have := mx_le (A := A) (f := n_deep) (g := n_holds) (k := 1) (q := q) (fun x hx => by have := (hw x hx).2.2.2.2.2.1; omega)
    omega
  · rw [ea]
    show 1 + mx A n_ht q + 1 ≤ 2 * (1 + su A n_holds q)
    have := mx_le (A := A) (f := n_ht) (g := n_holds) (k := 2) (q := q) (fun x hx => by
      have g := (hw x hx).2.2.2.2.2.2.1
      rw [if_neg (hq x hx).2.2] at g
      omega)
    omega
  · rw [ea]
    show ∀ x ∈ A.length :: fm A n_reach q, _
    intro x hx
    rcases List.mem_cons.mp hx with rfl | hx
    · exact ⟨by have := h.1; omega, Nat.le_refl _, by rw [ea]; exact fun y hy => hy⟩
    · obtain ⟨c, hc, hxc⟩ := mem_fm.mp hx
      obtain ⟨g1, g2, g3⟩ := (hw c hc).2.2.2.2.2.2.2.1 x hxc
      have gc := (hq c hc).2.1
      refine ⟨g1, by omega, fun y hy => ?_⟩
      rw [p.g (by omega)] at hy
      exact List.mem_cons_of_mem _ (mem_fm.mpr ⟨c, hc, g3 y hy⟩)
  · rw [ea]
    exact List.mem_cons_self
theorem wf_newT {law : Nat} {A : hA} (h : Wf law A) {r x : Nat} {sg bl : List Nat} (hx : Hl A [x]) (hsg : Hl A sg) (hbl : Tl A bl) (hs1 : ∀ y ∈ sg, tn A x ≤ tn A y) (hb1 : ∀ y ∈ bl, tn A x ≤ tn A y) (hd : bl.map (rk A) = dn r) (hsr : sg.length ≤ r) (hsz : 2 ^ r + sg.length ≤ (fm A n_jobs sg ++ fm A n_jobs bl).length + 1) (hs : (jb A x ++ (fm A n_jobs sg ++ fm A n_jobs bl)).length ≤ 24) : Wf law (A ++ [mkT A A.length r x sg bl]) := by
  refine wf_snoc h ?_
  have p : Px A (A ++ [mkT A A.length r x sg bl]) := Px.snoc _ _
  obtain ⟨x1, x2, x3⟩ := hx x (by simp)
  have hwx := h.2.2 x x1 x2
  have hl1 := wf_len h hsg.al
  have hl2 := wf_len h hbl.al
  have ea : a_g (A ++ [mkT A A.length r x sg bl]) A.length = mkT A A.length r x sg bl := a_g_new
  have hws := fun y hy => h.2.2 y (hsg y hy).1 (hsg y hy).2.1
  have hwb := fun y hy => h.2.2 y (hbl y hy).1 (hbl y hy).2.1
  have hlx : n_holds (a_g A x) = (jb A x).length := hwx.2.2.1
  have hlen : n_holds (mkT A A.length r x sg bl) = (jb A x ++ (fm A n_jobs sg ++ fm A n_jobs bl)).length := by
    show n_holds (a_g A x) + su A n_holds sg + su A n_holds bl = _
    rw [List.length_append, List.length_append]
    omega
  have hne : n_head (mkT A A.length r x sg bl) ≠ 0 := by
    show x ≠ 0
    omega
  refine ⟨Or.inr ⟨r, x, sg, bl, by rw [ea, mkT_px p x2 hsg.al hbl.al], ?_, fun y hy => ?_, fun y hy => ?_, ?_, hsr, by rw [ea, hlen, p.g x2, hlx, List.length_append]; omega⟩, by rw [ea, hlen]; exact hs, by rw [ea, hlen]; rfl, ?_, ?_, ?_, ?_, ?_, ?_⟩
  · rw [p.g x2]; exact ⟨x1, x2, x3⟩
  · obtain ⟨g1, g2, g3⟩ := hsg y hy
    rw [tn, tn, p.g g2, p.g x2]
    exact ⟨g1, g2, g3, hs1 y hy⟩
  · obtain ⟨g1, g2, g3⟩ := hbl y hy
    rw [tn, tn, p.g g2, p.g x2]
    exact ⟨g1, g2, g3, hb1 y hy⟩
  · rw [← hd]
    apply List.map_congr_left
    intro y hy
    rw [rk, rk, p.g (hbl y hy).2.1]
  · rw [tn, ea]
    show ∀ j ∈ jb A x ++ (fm A n_jobs sg ++ fm A n_jobs bl), tn A x ≤ j ∧ j < 30000
    intro j hj
    rcases List.mem_append.mp hj with hj | hj
    · exact hwx.2.2.2.1 j hj
    · rcases List.mem_append.mp hj with hj | hj
      · obtain ⟨y, hy, hjy⟩ := mem_fm.mp hj
        have g := (hws y hy).2.2.2.1 j hjy
        exact ⟨Nat.le_trans (hs1 y hy) g.1, g.2⟩
      · obtain ⟨y, hy, hjy⟩ := mem_fm.mp hj
        have g := (hwb y hy).2.2.2.1 j hjy
        exact ⟨Nat.le_trans (hb1 y hy) g.1, g.2⟩
  · rw [tn, ea]
    show tn A x ∈ jb A x ++ _
    exact List.mem_append_left _ hwx.2.2.2.2.1
  · rw [ea]
    show max (n_deep (a_g A x)) (max (mx A n_deep sg) (mx A n_deep bl)) ≤ n_holds (a_g A x) + su A n_holds sg + su A n_holds bl
    have g1 := mx_le (A := A) (f := n_deep) (g := n_holds) (k := 1) (q := sg) (fun y hy => by have := (hws y hy).2.2.2.2.2.1; omega)
    have g2 := mx_le (A := A) (f := n_deep) (g := n_holds) (k := 1) (q := bl) (fun y hy => by have := (hwb y hy).2.2.2.2.2.1; omega)
    have g3 := hwx.2.2.2.2.2.1
    omega
  · rw [ea, if_neg hne]
    show 1 + max (n_ht (a_g A x)) (max (mx A n_ht sg) (mx A n_ht bl)) + 0 ≤ 2 * (n_holds (a_g A x) + su A n_holds sg + su A n_holds bl)
    have g1 := mx_le (A := A) (f := n_ht) (g := n_holds) (k := 2) (q := sg) (fun y hy => by have := (hws y hy).2.2.2.2.2.2.1; omega)
    have g2 := mx_le (A := A) (f := n_ht) (g := n_holds) (k := 2) (q := bl) (fun y hy => by have := (hwb y hy).2.2.2.2.2.2.1; omega)
    have g3 := hwx.2.2.2.2.2.2.1
    rw [if_pos x3] at g3
    omega
  · rw [ea]
    show ∀ z ∈ A.length :: (n_reach (a_g A x) ++ (fm A n_reach sg ++ fm A n_reach bl)), _
    have sub : ∀ c, 0 < c → c < A.length → (∀ y ∈ n_reach (a_g A c), y ∈ n_reach (a_g A x) ++ (fm A n_reach sg ++ fm A n_reach bl)) → ∀ z ∈ n_reach (a_g A c), 0 < z ∧ z ≤ A.length ∧ ∀ y ∈ n_reach (a_g (A ++ [mkT A A.length r x sg bl]) z), y ∈ n_reach (mkT A A.length r x sg bl) := by
      intro c c1 c2 hc z hz
      obtain ⟨g1, g2, g3⟩ := (h.2.2 c c1 c2).2.2.2.2.2.2.2.1 z hz
      refine ⟨g1, by omega, fun y hy => ?_⟩
      rw [p.g (by omega)] at hy
      exact List.mem_cons_of_mem _ (hc y (g3 y hy))
    intro z hz
    rcases List.mem_cons.mp hz with rfl | hz
    · exact ⟨by have := h.1; omega, Nat.le_refl _, by rw [ea]; exact fun y hy => hy⟩
    · rcases List.mem_append.mp hz with hz | hz
      · exact sub x x1 x2 (fun y hy => List.mem_append_left _ hy) z hz
      · rcases List.mem_append.mp hz with hz | hz
        · obtain ⟨c, hc, hzc⟩ := mem_fm.mp hz
          exact sub c (hsg c hc).1 (hsg c hc).2.1 (fun y hy => List.mem_append_right _ (List.mem_append_left _ (mem_fm.mpr ⟨c, hc, hy⟩))) z hzc
        · obtain ⟨c, hc, hzc⟩ := mem_fm.mp hz
          exact sub c (hbl c hc).1 (hbl c hc).2.1 (fun y hy => List.mem_append_right _ (List.mem_append_right _ (mem_fm.mpr ⟨c, hc, hy⟩))) z hzc
  · rw [ea]
    exact List.mem_cons_self
