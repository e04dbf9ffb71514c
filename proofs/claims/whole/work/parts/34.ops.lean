/-! link, carry, merge, put: well made, the same jobs, ranks in order -/
theorem wf_tree {law : Nat} {A : hA} (h : Wf law A) {x : Nat} (hx : Tl A [x]) : ∃ r y sg bl, a_g A x = mkT A x r y sg bl ∧ (0 < y ∧ y < x ∧ n_head (a_g A y) = 0) ∧ (∀ z ∈ sg, 0 < z ∧ z < x ∧ n_head (a_g A z) = 0 ∧ tn A y ≤ tn A z) ∧ (∀ z ∈ bl, 0 < z ∧ z < x ∧ n_head (a_g A z) ≠ 0 ∧ tn A y ≤ tn A z) ∧ bl.map (rk A) = dn r ∧ sg.length ≤ r ∧ 2 ^ r + sg.length + n_holds (a_g A y) ≤ n_holds (a_g A x) + 1 := by
  obtain ⟨x1, x2, x3⟩ := hx x (by simp)
  rcases (h.2.2 x x1 x2).1 with ⟨t, q, e, -⟩ | hw
  · rw [e] at x3
    exact absurd rfl x3
  · exact hw
theorem wf_heap {law : Nat} {A : hA} (h : Wf law A) {x : Nat} (hx : Hl A [x]) : ∃ t q, a_g A x = mkH A x t q ∧ (∀ z ∈ q, 0 < z ∧ z < x ∧ n_head (a_g A z) ≠ 0 ∧ t ≤ tn A z) ∧ Qk law A q ∧ t < 30000 := by
  obtain ⟨x1, x2, x3⟩ := hx x (by simp)
  rcases (h.2.2 x x1 x2).1 with hw | ⟨r, y, sg, bl, e, hy, -⟩
  · exact hw
  · rw [e] at x3
    have : y = 0 := x3
    omega
theorem dn_succ (r : Nat) : dn (r + 1) = r :: dn r := by simp [dn, List.range_succ]
theorem tl_cons {A : hA} {x : Nat} {q : List Nat} : Tl A (x :: q) ↔ Tl A [x] ∧ Tl A q := by
  constructor
  · exact fun h => ⟨fun y hy => h y (by simp at hy; simp [hy]), fun y hy => h y (by simp [hy])⟩
  · intro ⟨h1, h2⟩ y hy
    rcases List.mem_cons.mp hy with rfl | hy
    · exact h1 _ (by simp)
    · exact h2 y hy
theorem link_ud {law : Nat} {A : hA} (h : Wf law A) {u d : Nat} (hu : Tl A [u]) (hd : Tl A [d]) (hr : rk A u = rk A d) (ht : tn A u ≤ tn A d) (hs : (jb A u).length + (jb A d).length ≤ 24) :
    Wf law (A ++ [mkT A A.length (rk A u + 1) (n_head (a_g A u)) (n_sg (a_g A u)) (d :: n_bl (a_g A u))]) ∧ (n_jobs (mkT A A.length (rk A u + 1) (n_head (a_g A u)) (n_sg (a_g A u)) (d :: n_bl (a_g A u)))).Perm (jb A u ++ jb A d) ∧ n_head (a_g A u) ≠ 0 ∧ n_turn (a_g A (n_head (a_g A u))) = tn A u := by
  obtain ⟨r, y, sg, bl, e, ⟨y1, y2, y3⟩, hsg, hbl, hdn, hsr, hsz⟩ := wf_tree h hu
  obtain ⟨u1, u2, u3⟩ := hu u (by simp)
  obtain ⟨d1, d2, d3⟩ := hd d (by simp)
  have er : rk A u = r := by rw [rk, e]; rfl
  have eh : n_head (a_g A u) = y := by rw [e]; rfl
  have es : n_sg (a_g A u) = sg := by rw [e]; rfl
  have eb : n_bl (a_g A u) = bl := by rw [e]; rfl
  have et : tn A u = tn A y := by rw [tn, e]; rfl
  have ej : jb A u = jb A y ++ (fm A n_jobs sg ++ fm A n_jobs bl) := by rw [jb, e]; rfl
  obtain ⟨rd, yd, sgd, bld, ed, ⟨yd1, yd2, yd3⟩, -, -, -, -, hszd⟩ := wf_tree h hd
  have hyd := (h.2.2 yd yd1 (by omega)).2.2
  have hyd1 : 1 ≤ n_holds (a_g A yd) := by
    rw [hyd.1]
    exact List.length_pos_of_mem hyd.2.2.1
  have hly : n_holds (a_g A y) = (jb A y).length := (h.2.2 y y1 (by omega)).2.2.1
  have erd : rk A d = rd := by rw [rk, ed]; rfl
  have hld := (h.2.2 d d1 d2).2.2.1
  have hlu := (h.2.2 u u1 u2).2.2.1
  have hld : n_holds (a_g A d) = (jb A d).length := hld
  have hlu : n_holds (a_g A u) = (jb A u).length := hlu
  have perm : (jb A y ++ (fm A n_jobs sg ++ fm A n_jobs (d :: bl))).Perm (jb A u ++ jb A d) := by
    rw [ej]
    show (jb A y ++ (fm A n_jobs sg ++ (jb A d ++ fm A n_jobs bl))).Perm _
    rw [List.append_assoc, List.append_assoc]
    refine List.Perm.append_left _ (List.Perm.append_left _ ?_)
    exact List.perm_append_comm
  have hlen := perm.length_eq
  rw [List.length_append (as := jb A u)] at hlen
  have h2 : (2 : Nat) ^ (r + 1) = 2 ^ r + 2 ^ r := by rw [Nat.pow_succ]; omega
  have hrd : rd = r := by omega
  refine ⟨?_, ?_, u3, by rw [eh]; exact et.symm⟩
  · rw [er, eh, es, eb]
    refine wf_newT h (fun z hz => ?_) (fun z hz => ?_) (tl_cons.mpr ⟨hd, fun z hz => ?_⟩) (fun z hz => (hsg z hz).2.2.2) (fun z hz => ?_) ?_ (by omega) ?_ (by omega)
    · simp at hz; subst hz; exact ⟨y1, by omega, y3⟩
    · have g := hsg z hz; exact ⟨g.1, by omega, g.2.2.1⟩
    · have g := hbl z hz; exact ⟨g.1, by omega, g.2.2.1⟩
    · rcases List.mem_cons.mp hz with rfl | hz
      · omega
      · exact (hbl z hz).2.2.2
    · rw [List.map_cons, hdn, dn_succ, ← hr, er]
    · have e3 := congrArg List.length ej
      rw [List.length_append] at e3
      have e4 : (fm A n_jobs sg ++ fm A n_jobs (d :: bl)).length = (fm A n_jobs sg ++ fm A n_jobs bl).length + (jb A d).length := by
        show (fm A n_jobs sg ++ (jb A d ++ fm A n_jobs bl)).length = _
        simp only [List.length_append]
        omega
      rw [e4, h2]
      subst hrd
      omega
  · rw [eh, es, eb]
    exact perm
theorem link_ok {law : Nat} {A : hA} (h : Wf law A) {x y : Nat} (hx : Tl A [x]) (hy : Tl A [y]) (hr : rk A x = rk A y) (hs : (jb A x).length + (jb A y).length ≤ 24) :
    Wf law (s_link A x y) ∧ Px A (s_link A x y) ∧ Tl (s_link A x y) [A.length] ∧ rk (s_link A x y) A.length = rk A x + 1 ∧ (jb (s_link A x y) A.length).Perm (jb A x ++ jb A y) ∧ (s_link A x y).length = A.length + 1 := by
  have hn : a_g (s_link A x y) A.length = s_ln A x y := a_g_new
  have key : Wf law (s_link A x y) ∧ (n_jobs (s_ln A x y)).Perm (jb A x ++ jb A y) ∧ n_head (s_ln A x y) ≠ 0 ∧ n_rank (s_ln A x y) = rk A x + 1 := by
    unfold s_link s_ln s_up s_dn
    by_cases c : tn A y < tn A x
    · simp only [c, if_true]
      obtain ⟨g1, g2, g3, -⟩ := link_ud h hy hx hr.symm (by omega) (by omega)
      exact ⟨g1, g2.trans List.perm_append_comm, g3, by rw [hr]; rfl⟩
    · simp only [c, if_false]
      obtain ⟨g1, g2, g3, -⟩ := link_ud h hx hy hr (by omega) (by omega)
      exact ⟨g1, g2, g3, rfl⟩
  refine ⟨key.1, Px.snoc _ _, fun z hz => ?_, ?_, ?_, by simp [s_link]⟩
  · simp at hz
    subst hz
    rw [hn]
    exact ⟨by have := h.1; omega, by simp [s_link], key.2.2.1⟩
  · rw [rk, hn]; exact key.2.2.2
  · rw [jb, hn]; exact key.2.1
/-- what a queue that was made is -/
def Qr (law : Nat) (A : hA) (J : List Nat) (lo n len : Nat) (g : hA × List Nat × Nat) : Prop :=
  Wf law g.1 ∧ Px A g.1 ∧ Tl g.1 g.2.1 ∧ Sx g.1 g.2.1 ∧ (∀ x ∈ g.2.1, lo ≤ rk g.1 x) ∧ (fm g.1 n_jobs g.2.1).Perm J ∧ g.1.length = A.length + g.2.2 ∧ g.2.1.length + g.2.2 = len ∧ n ≤ g.2.1.length
theorem rk_px {A B : hA} (p : Px A B) {a : Nat} (h : a < A.length) : rk B a = rk A a := by rw [rk, rk, p.g h]
theorem jb_px {A B : hA} (p : Px A B) {a : Nat} (h : a < A.length) : jb B a = jb A a := by rw [jb, jb, p.g h]
theorem tn_px {A B : hA} (p : Px A B) {a : Nat} (h : a < A.length) : tn B a = tn A a := by rw [tn, tn, p.g h]
theorem carry_ok {law : Nat} : ∀ (q : List Nat) {A : hA} {t : Nat}, Wf law A → Tl A [t] → Tl A q → Sx A q → (∀ x ∈ q, rk A t ≤ rk A x) → (jb A t ++ fm A n_jobs q).length ≤ 24 → Qr law A (jb A t ++ fm A n_jobs q) (rk A t) 1 (q.length + 1) (s_carry A t q)
  | [], A, t, h, ht, _, _, _, _ => by
    refine ⟨h, Px.refl _, ht, List.pairwise_singleton _ _, fun x hx => ?_, ?_, rfl, rfl, Nat.le_refl _⟩
    · have hx : x ∈ [t] := hx
      simp at hx; subst hx; exact Nat.le_refl _
    · show (n_jobs (a_g A t) ++ []).Perm (jb A t ++ [])
      exact List.Perm.refl _
  | x :: q, A, t, h, ht, hq, hs, hr, hl => by
    obtain ⟨hx, hq'⟩ := tl_cons.mp hq
    unfold s_carry
    by_cases c : rk A t < rk A x
    · rw [if_pos c]
      refine ⟨h, Px.refl _, tl_cons.mpr ⟨ht, hq⟩, List.pairwise_cons.mpr ⟨fun y hy => ?_, hs⟩, fun y hy => ?_, List.Perm.refl _, rfl, rfl, by simp⟩
      · rcases List.mem_cons.mp hy with rfl | hy
        · exact c
        · exact Nat.lt_trans c ((List.pairwise_cons.mp hs).1 y hy)
      · have hy : y ∈ t :: x :: q := hy
        rcases List.mem_cons.mp hy with rfl | hy
        · exact Nat.le_refl _
        · exact hr y hy
    · rw [if_neg c]
      have hrx : rk A t = rk A x := by have := hr x (by simp); omega
      have hl' : (jb A t ++ (jb A x ++ fm A n_jobs q)).length ≤ 24 := hl
      rw [List.length_append, List.length_append] at hl'
      obtain ⟨k1, k2, k3, k4, k5, k6⟩ := link_ok h ht hx hrx (by omega)
      have hxl : x < A.length := (hx x (by simp)).2.1
      have hsq := (List.pairwise_cons.mp hs)
      have hfm := fm_px k2 n_jobs hq'.al
      have hlen := k5.length_eq
      rw [List.length_append] at hlen
      obtain ⟨g1, g2, g3, g4, g5, g6, g7, g8, g9⟩ := carry_ok q k1 k3 (hq'.px k2) ((sx_px k2 hq'.al).mpr hsq.2) (fun y hy => by
        rw [k4, rk_px k2 (hq' y hy).2.1, hrx]
        exact hsq.1 y hy) (by rw [List.length_append, hfm]; omega)
      refine ⟨g1, k2.trans g2, g3, g4, fun y hy => ?_, ?_, ?_, ?_, g9⟩
      · have := g5 y hy
        rw [k4] at this
        show rk A t ≤ rk (s_carry (s_link A t x) A.length q).1 y
        omega
      · refine g6.trans ?_
        rw [hfm]
        show (jb (s_link A t x) A.length ++ fm A n_jobs q).Perm (jb A t ++ (jb A x ++ fm A n_jobs q))
        rw [← List.append_assoc]
        exact List.Perm.append_right _ k5
      · show (s_carry (s_link A t x) A.length q).1.length = A.length + ((s_carry (s_link A t x) A.length q).2.2 + 1)
        omega
      · show (s_carry (s_link A t x) A.length q).2.1.length + ((s_carry (s_link A t x) A.length q).2.2 + 1) = (x :: q).length + 1
        simp only [List.length_cons]
        omega

theorem cf_ok {law : Nat} {A : hA} {q : List Nat} (h : Wf law A) (hq : Tl A q) (hs : Sx A q.tail) (hw : ∀ x y l, q = x :: y :: l → rk A x ≤ rk A y) (hl : (fm A n_jobs q).length ≤ 24) : Qr law A (fm A n_jobs q) 0 0 q.length (s_cf A q) := by
  cases q with
  | nil => exact ⟨h, Px.refl _, hq, List.Pairwise.nil, fun x hx => Nat.zero_le _, List.Perm.refl _, rfl, rfl, Nat.le_refl _⟩
  | cons x q =>
    obtain ⟨hx, hq'⟩ := tl_cons.mp hq
    have hs : Sx A q := hs
    obtain ⟨g1, g2, g3, g4, g5, g6, g7, g8, g9⟩ := carry_ok q h hx hq' hs (fun y hy => by
      cases q with
      | nil => simp at hy
      | cons z q =>
        have h1 := hw x z q rfl
        rcases List.mem_cons.mp hy with rfl | hy
        · exact h1
        · exact Nat.le_of_lt (Nat.lt_of_le_of_lt h1 ((List.pairwise_cons.mp hs).1 y hy))) hl
    exact ⟨g1, g2, g3, g4, fun _ _ => Nat.zero_le _, g6, g7, g8, Nat.zero_le _⟩
theorem mg_ok {law : Nat} : ∀ (n : Nat) {A : hA} {a b : List Nat} (lo : Nat), a.length + b.length ≤ n → Wf law A → Tl A a → Tl A b → Sx A a → Sx A b → (∀ x ∈ a, lo ≤ rk A x) → (∀ x ∈ b, lo ≤ rk A x) → (fm A n_jobs a ++ fm A n_jobs b).length ≤ 24 → Qr law A (fm A n_jobs a ++ fm A n_jobs b) lo 0 (a.length + b.length) (s_mg n A a b)
  | 0, A, a, b, lo, hn, h, ha, hb, sa, sb, la, lb, hl => by
    have e1 : a = [] := List.length_eq_zero_iff.mp (by omega)
    have e2 : b = [] := List.length_eq_zero_iff.mp (by omega)
    subst e1; subst e2
    exact ⟨h, Px.refl _, ha, sa, la, List.Perm.refl _, rfl, rfl, Nat.zero_le _⟩
  | n + 1, A, [], b, lo, hn, h, ha, hb, sa, sb, la, lb, hl => ⟨h, Px.refl _, hb, sb, lb, List.Perm.refl _, rfl, by simp [s_mg], Nat.zero_le _⟩
  | n + 1, A, x :: a, [], lo, hn, h, ha, hb, sa, sb, la, lb, hl => ⟨h, Px.refl _, ha, sa, la, by simp [fm, s_mg], rfl, rfl, Nat.zero_le _⟩
  | n + 1, A, x :: a, y :: b, lo, hn, h, ha, hb, sa, sb, la, lb, hl => by
    obtain ⟨hx, ha'⟩ := tl_cons.mp ha
    obtain ⟨hy, hb'⟩ := tl_cons.mp hb
    have sa' := List.pairwise_cons.mp sa
    have sb' := List.pairwise_cons.mp sb
    simp only [List.length_cons] at hn
    have hl' : ((jb A x ++ fm A n_jobs a) ++ (jb A y ++ fm A n_jobs b)).length ≤ 24 := hl
    unfold s_mg
    by_cases c1 : rk A x < rk A y
    · rw [if_pos c1]
      obtain ⟨g1, g2, g3, g4, g5, g6, g7, g8, g9⟩ := mg_ok n (A := A) (a := a) (b := y :: b) (rk A x + 1) (by simp only [List.length_cons]; omega) h ha' hb sa'.2 sb (fun z hz => sa'.1 z hz) (fun z hz => by
        rcases List.mem_cons.mp hz with rfl | hz
        · exact c1
        · have := sb'.1 z hz; omega) (by simp only [List.length_append] at hl' ⊢; show _ + (jb A y ++ fm A n_jobs b).length ≤ 24; simp only [List.length_append]; omega)
      have hxl := (hx x (by simp)).2.1
      refine ⟨g1, g2, tl_cons.mpr ⟨hx.px g2, g3⟩, List.pairwise_cons.mpr ⟨fun z hz => ?_, g4⟩, fun z hz => ?_, ?_, g7, ?_, Nat.zero_le _⟩
      · have := g5 z hz
        show rk (s_mg n A a (y :: b)).1 x < rk (s_mg n A a (y :: b)).1 z
        rw [rk_px g2 hxl]
        omega
      · have hz : z ∈ x :: (s_mg n A a (y :: b)).2.1 := hz
        show lo ≤ rk (s_mg n A a (y :: b)).1 z
        rcases List.mem_cons.mp hz with rfl | hz
        · rw [rk_px g2 hxl]; exact la z (by simp)
        · have h1 := g5 z hz
          have h2 := la x (by simp)
          omega
      · show (jb (s_mg n A a (y :: b)).1 x ++ fm (s_mg n A a (y :: b)).1 n_jobs (s_mg n A a (y :: b)).2.1).Perm ((jb A x ++ fm A n_jobs a) ++ fm A n_jobs (y :: b))
        rw [jb_px g2 hxl, List.append_assoc]
        exact List.Perm.append_left _ g6
      · show (s_mg n A a (y :: b)).2.1.length + 1 + (s_mg n A a (y :: b)).2.2 = a.length + 1 + (y :: b).length
        omega
    · rw [if_neg c1]
      by_cases c2 : rk A y < rk A x
      · rw [if_pos c2]
        obtain ⟨g1, g2, g3, g4, g5, g6, g7, g8, g9⟩ := mg_ok n (A := A) (a := x :: a) (b := b) (rk A y + 1) (by simp only [List.length_cons]; omega) h ha hb' sa sb'.2 (fun z hz => by
          rcases List.mem_cons.mp hz with rfl | hz
          · exact c2
          · have := sa'.1 z hz; omega) (fun z hz => sb'.1 z hz) (by simp only [List.length_append] at hl' ⊢; show (jb A x ++ fm A n_jobs a).length + _ ≤ 24; simp only [List.length_append]; omega)
        have hyl := (hy y (by simp)).2.1
        refine ⟨g1, g2, tl_cons.mpr ⟨hy.px g2, g3⟩, List.pairwise_cons.mpr ⟨fun z hz => ?_, g4⟩, fun z hz => ?_, ?_, g7, ?_, Nat.zero_le _⟩
        · have := g5 z hz
          show rk (s_mg n A (x :: a) b).1 y < rk (s_mg n A (x :: a) b).1 z
          rw [rk_px g2 hyl]
          omega
        · have hz : z ∈ y :: (s_mg n A (x :: a) b).2.1 := hz
          show lo ≤ rk (s_mg n A (x :: a) b).1 z
          rcases List.mem_cons.mp hz with rfl | hz
          · rw [rk_px g2 hyl]; exact lb z (by simp)
          · have h1 := g5 z hz
            have h2 := lb y (by simp)
            omega
        · show (jb (s_mg n A (x :: a) b).1 y ++ fm (s_mg n A (x :: a) b).1 n_jobs (s_mg n A (x :: a) b).2.1).Perm (fm A n_jobs (x :: a) ++ (jb A y ++ fm A n_jobs b))
          rw [jb_px g2 hyl]
          refine (List.Perm.append_left _ g6).trans ?_
          rw [← List.append_assoc, ← List.append_assoc]
          exact List.Perm.append_right _ List.perm_append_comm
        · show (s_mg n A (x :: a) b).2.1.length + 1 + (s_mg n A (x :: a) b).2.2 = (x :: a).length + (b.length + 1)
          omega
      · rw [if_neg c2]
        have hr : rk A x = rk A y := by omega
        simp only [List.length_append] at hl'
        obtain ⟨k1, k2, k3, k4, k5, k6⟩ := link_ok h hx hy hr (by omega)
        have f1 := fm_px k2 n_jobs ha'.al
        have f2 := fm_px k2 n_jobs hb'.al
        have hlen := k5.length_eq
        rw [List.length_append] at hlen
        obtain ⟨g1, g2, g3, g4, g5, g6, g7, g8, g9⟩ := mg_ok n (A := s_link A x y) (a := a) (b := b) (rk A x + 1) (by omega) k1 (ha'.px k2) (hb'.px k2) ((sx_px k2 ha'.al).mpr sa'.2) ((sx_px k2 hb'.al).mpr sb'.2) (fun z hz => by rw [rk_px k2 (ha' z hz).2.1]; exact sa'.1 z hz) (fun z hz => by rw [rk_px k2 (hb' z hz).2.1, hr]; exact sb'.1 z hz) (by rw [f1, f2, List.length_append]; omega)
        have zl := (k3 A.length (by simp)).2.1
        have hlen2 := g6.length_eq
        rw [f1, f2, List.length_append] at hlen2
        obtain ⟨q1, q2, q3, q4, q5, q6, q7, q8, q9⟩ := carry_ok (s_mg n (s_link A x y) a b).2.1 (t := A.length) g1 (k3.px g2) g3 g4 (fun z hz => by rw [rk_px g2 zl, k4]; exact g5 z hz) (by rw [List.length_append, jb_px g2 zl]; omega)
        refine ⟨q1, k2.trans (g2.trans q2), q3, q4, fun z hz => ?_, ?_, ?_, ?_, Nat.zero_le _⟩
        · have h1 := q5 z hz
          rw [rk_px g2 zl, k4] at h1
          have h2 := la x (by simp)
          show lo ≤ rk (s_carry (s_mg n (s_link A x y) a b).1 A.length (s_mg n (s_link A x y) a b).2.1).1 z
          omega
        · refine q6.trans ?_
          rw [jb_px g2 zl]
          show List.Perm _ ((jb A x ++ fm A n_jobs a) ++ (jb A y ++ fm A n_jobs b))
          refine (List.Perm.append k5 g6).trans ?_
          rw [f1, f2]
          have e : ((jb A x ++ jb A y) ++ (fm A n_jobs a ++ fm A n_jobs b)) = jb A x ++ ((jb A y ++ fm A n_jobs a) ++ fm A n_jobs b) := by simp
          have e2 : ((jb A x ++ fm A n_jobs a) ++ (jb A y ++ fm A n_jobs b)) = jb A x ++ ((fm A n_jobs a ++ jb A y) ++ fm A n_jobs b) := by simp
          rw [e, e2]
          exact List.Perm.append_left _ (List.Perm.append_right _ List.perm_append_comm)
        · show (s_carry (s_mg n (s_link A x y) a b).1 A.length (s_mg n (s_link A x y) a b).2.1).1.length = A.length + (1 + (s_mg n (s_link A x y) a b).2.2 + (s_carry (s_mg n (s_link A x y) a b).1 A.length (s_mg n (s_link A x y) a b).2.1).2.2)
          omega
        · show (s_carry (s_mg n (s_link A x y) a b).1 A.length (s_mg n (s_link A x y) a b).2.1).2.1.length + (1 + (s_mg n (s_link A x y) a b).2.2 + (s_carry (s_mg n (s_link A x y) a b).1 A.length (s_mg n (s_link A x y) a b).2.1).2.2) = (x :: a).length + (y :: b).length
          simp only [List.length_cons]
          omega
theorem merge_ok {law : Nat} {A : hA} {a b : List Nat} (h : Wf law A) (ha : Tl A a) (hb : Tl A b) (sa : Sx A a.tail) (wa : ∀ x y l, a = x :: y :: l → rk A x ≤ rk A y) (sb : Sx A b.tail) (wb : ∀ x y l, b = x :: y :: l → rk A x ≤ rk A y) (hl : (fm A n_jobs a ++ fm A n_jobs b).length ≤ 24) : Qr law A (fm A n_jobs a ++ fm A n_jobs b) 0 0 (a.length + b.length) (s_merge A a b) := by
  rw [List.length_append] at hl
  obtain ⟨g1, g2, g3, g4, g5, g6, g7, g8, g9⟩ := cf_ok h ha sa wa (by omega)
  have f2 := fm_px g2 n_jobs hb.al
  obtain ⟨k1, k2, k3, k4, k5, k6, k7, k8, k9⟩ := cf_ok g1 (hb.px g2) ((sx_px g2 (fun x hx => hb.al x (List.mem_of_mem_tail hx))).mpr sb) (fun x y l e => by rw [rk_px g2 (hb x (by rw [e]; simp)).2.1, rk_px g2 (hb y (by rw [e]; simp)).2.1]; exact wb x y l e) (by rw [f2]; omega)
  rw [f2] at k6
  have f3 := fm_px k2 n_jobs g3.al
  have l1 := g6.length_eq
  have l2 := k6.length_eq
  obtain ⟨q1, q2, q3, q4, q5, q6, q7, q8, q9⟩ := mg_ok ((s_cf A a).2.1.length + (s_cf (s_cf A a).1 b).2.1.length) (A := (s_cf (s_cf A a).1 b).1) (a := (s_cf A a).2.1) (b := (s_cf (s_cf A a).1 b).2.1) 0 (Nat.le_refl _) k1 (g3.px k2) k3 ((sx_px k2 g3.al).mpr g4) k4 (fun _ _ => Nat.zero_le _) (fun _ _ => Nat.zero_le _) (by rw [f3, List.length_append]; omega)
  refine ⟨q1, g2.trans (k2.trans q2), q3, q4, fun _ _ => Nat.zero_le _, ?_, ?_, ?_, Nat.zero_le _⟩
  · refine q6.trans ?_
    rw [f3]
    exact List.Perm.append g6 k6
  · show (s_mg _ _ _ _).1.length = A.length + ((s_cf A a).2.2 + (s_cf (s_cf A a).1 b).2.2 + (s_mg _ _ _ _).2.2)
    omega
  · show (s_mg _ _ _ _).2.1.length + ((s_cf A a).2.2 + (s_cf (s_cf A a).1 b).2.2 + (s_mg _ _ _ _).2.2) = a.length + b.length
    omega

/-- behind a put: as a queue of the law is -/
def Pr (law : Nat) (A : hA) (J : List Nat) (len : Nat) (g : hA × List Nat × Nat) : Prop :=
  Wf law g.1 ∧ Px A g.1 ∧ Tl g.1 g.2.1 ∧ Qk law g.1 g.2.1 ∧ (fm g.1 n_jobs g.2.1).Perm J ∧ g.1.length = A.length + 1 + g.2.2 ∧ g.2.1.length + g.2.2 ≤ len
theorem Qk.of_sx {law : Nat} {A : hA} {q : List Nat} (h : Sx A q) : Qk law A q := by
  refine ⟨fun _ => h, h.tail, fun x y l e => ?_⟩
  subst e
  exact Nat.le_of_lt ((List.pairwise_cons.mp h).1 y (by simp))
theorem hl_one {A : hA} {x : Nat} (h1 : 0 < x) (h2 : x < A.length) (h3 : n_head (a_g A x) = 0) : Hl A [x] := fun y hy => by
  simp at hy
  subst hy
  exact ⟨h1, h2, h3⟩
theorem tl_one {A : hA} {x : Nat} (h1 : 0 < x) (h2 : x < A.length) (h3 : n_head (a_g A x) ≠ 0) : Tl A [x] := fun y hy => by
  simp at hy
  subst hy
  exact ⟨h1, h2, h3⟩
theorem new0_ok {law : Nat} {A : hA} (h : Wf law A) {x : Nat} (hx : Hl A [x]) : Wf law (A ++ [mkT A A.length 0 x [] []]) ∧ Tl (A ++ [mkT A A.length 0 x [] []]) [A.length] ∧ rk (A ++ [mkT A A.length 0 x [] []]) A.length = 0 ∧ jb (A ++ [mkT A A.length 0 x [] []]) A.length = jb A x := by
  obtain ⟨x1, x2, x3⟩ := hx x (by simp)
  have ea : a_g (A ++ [mkT A A.length 0 x [] []]) A.length = mkT A A.length 0 x [] [] := a_g_new
  have hw := h.2.2 x x1 x2
  have h24 : (jb A x).length ≤ 24 := by have := hw.2.1; rw [hw.2.2.1] at this; exact this
  refine ⟨wf_newT h hx (fun _ h => by simp at h) (fun _ h => by simp at h) (fun _ h => by simp at h) (fun _ h => by simp at h) rfl (Nat.le_refl _) (by simp [fm]) (by simp [fm]; exact h24), tl_one (by have := h.1; omega) (by simp) (by rw [ea]; show x ≠ 0; omega), by rw [rk, ea]; rfl, by rw [jb, ea]; show jb A x ++ ([] ++ []) = _; simp⟩
theorem beside_ok {law : Nat} {A : hA} (h : Wf law A) {t x : Nat} (ht : Tl A [t]) (hx : Hl A [x]) (hr : (n_sg (a_g A t)).length + 1 ≤ rk A t) (hs : (jb A t).length + (jb A x).length ≤ 24) :
    Wf law (A ++ [s_bn A t x]) ∧ Tl (A ++ [s_bn A t x]) [A.length] ∧ rk (A ++ [s_bn A t x]) A.length = rk A t ∧ (jb (A ++ [s_bn A t x]) A.length).Perm (jb A t ++ jb A x) := by
  obtain ⟨r, y, sg, bl, e, ⟨y1, y2, y3⟩, hsg, hbl, hdn, hsr, hsz⟩ := wf_tree h ht
  obtain ⟨t1, t2, t3⟩ := ht t (by simp)
  obtain ⟨x1, x2, x3⟩ := hx x (by simp)
  have er : rk A t = r := by rw [rk, e]; rfl
  have eh : n_head (a_g A t) = y := by rw [e]; rfl
  have es : n_sg (a_g A t) = sg := by rw [e]; rfl
  have eb : n_bl (a_g A t) = bl := by rw [e]; rfl
  have et : tn A t = tn A y := by rw [tn, e]; rfl
  have ej : jb A t = jb A y ++ (fm A n_jobs sg ++ fm A n_jobs bl) := by rw [jb, e]; rfl
  have hly : n_holds (a_g A y) = (jb A y).length := (h.2.2 y y1 (by omega)).2.2.1
  have hlt : n_holds (a_g A t) = (jb A t).length := (h.2.2 t t1 t2).2.2.1
  have hx1 : 1 ≤ (jb A x).length := List.length_pos_of_mem (h.2.2 x x1 x2).2.2.2.2.1
  have hy1 : 1 ≤ (jb A y).length := List.length_pos_of_mem (h.2.2 y y1 (by omega)).2.2.2.2.1
  have ejl := congrArg List.length ej
  rw [List.length_append] at ejl
  have hH : Hl A [y] := hl_one y1 (by omega) y3
  have hS : Hl A sg := fun z hz => by have g := hsg z hz; exact ⟨g.1, by omega, g.2.2.1⟩
  have hB : Tl A bl := fun z hz => by have g := hbl z hz; exact ⟨g.1, by omega, g.2.2.1⟩
  rw [es, er] at hr
  have key : Wf law (A ++ [s_bn A t x]) ∧ n_head (s_bn A t x) ≠ 0 ∧ n_rank (s_bn A t x) = r ∧ (n_jobs (s_bn A t x)).Perm (jb A t ++ jb A x) := by
    unfold s_bn
    rw [er, eh, es, eb]
    by_cases c : tn A t < tn A x
    · rw [if_pos c]
      have p : (jb A y ++ (fm A n_jobs (x :: sg) ++ fm A n_jobs bl)).Perm (jb A t ++ jb A x) := by
        rw [ej, List.append_assoc]
        refine List.Perm.append_left _ ?_
        show ((jb A x ++ fm A n_jobs sg) ++ fm A n_jobs bl).Perm _
        rw [List.append_assoc]
        exact List.perm_append_comm
      have pl := p.length_eq
      rw [List.length_append, List.length_append (as := jb A t)] at pl
      refine ⟨wf_newT h hH (fun z hz => ?_) hB (fun z hz => ?_) (fun z hz => (hbl z hz).2.2.2) hdn (by simp; omega) ?_ ?_, by show y ≠ 0; omega, rfl, p⟩
      · rcases List.mem_cons.mp hz with rfl | hz
        · exact ⟨x1, x2, x3⟩
        · exact hS z hz
      · rcases List.mem_cons.mp hz with rfl | hz
        · omega
        · exact (hsg z hz).2.2.2
      · simp only [List.length_cons]; omega
      · rw [List.length_append]; omega
    · rw [if_neg c]
      have p : (jb A x ++ (fm A n_jobs (y :: sg) ++ fm A n_jobs bl)).Perm (jb A t ++ jb A x) := by
        show (jb A x ++ ((jb A y ++ fm A n_jobs sg) ++ fm A n_jobs bl)).Perm _
        rw [List.append_assoc, ← ej]
        exact List.perm_append_comm
      have pl := p.length_eq
      rw [List.length_append, List.length_append (as := jb A t)] at pl
      refine ⟨wf_newT h hx (fun z hz => ?_) hB (fun z hz => ?_) (fun z hz => ?_) hdn (by simp; omega) ?_ ?_, by show x ≠ 0; omega, rfl, p⟩
      · rcases List.mem_cons.mp hz with rfl | hz
        · exact ⟨y1, by omega, y3⟩
        · exact hS z hz
      · rcases List.mem_cons.mp hz with rfl | hz
        · omega
        · have := (hsg z hz).2.2.2; omega
      · have := (hbl z hz).2.2.2; omega
      · simp only [List.length_cons]; omega
      · rw [List.length_append]; omega
  have ea : a_g (A ++ [s_bn A t x]) A.length = s_bn A t x := a_g_new
  exact ⟨key.1, tl_one (by have := h.1; omega) (by simp) (by rw [ea]; exact key.2.1), by rw [rk, ea, er]; exact key.2.2.1, by rw [jb, ea]; exact key.2.2.2⟩
theorem put1_ok {law : Nat} {A : hA} (h : Wf law A) {x : Nat} {q : List Nat} (hx : Hl A [x]) (hq : Tl A q) (hk : Qk law A q) (hl : (jb A x ++ fm A n_jobs q).length ≤ 24) (hlaw : law = 0 ∨ law = 1) (hne : law = 0 → ∀ a b l, q = a :: b :: l → rk A a ≠ rk A b) :
    Pr law A (jb A x ++ fm A n_jobs q) (q.length + 1) (if law = 0 then (A ++ [mkT A A.length 0 x [] []], A.length :: q, 0) else s_carry (A ++ [mkT A A.length 0 x [] []]) A.length q) := by
  obtain ⟨g1, g2, g3, g4⟩ := new0_ok h hx
  have p : Px A (A ++ [mkT A A.length 0 x [] []]) := Px.snoc _ _
  have f1 := fm_px p n_jobs hq.al
  by_cases c : law = 0
  · rw [if_pos c]
    have sq : Sx A q := by
      cases q with
      | nil => exact List.Pairwise.nil
      | cons a q =>
        refine List.pairwise_cons.mpr ⟨fun z hz => ?_, hk.2.1⟩
        cases q with
        | nil => simp at hz
        | cons b q =>
          have h1 := hk.2.2 a b q rfl
          have h2 := hne c a b q rfl
          rcases List.mem_cons.mp hz with rfl | hz
          · omega
          · have := (List.pairwise_cons.mp (show Sx A (b :: q) from hk.2.1)).1 z hz
            omega
    refine ⟨g1, p, tl_cons.mpr ⟨g2, hq.px p⟩, ⟨fun e => by omega, (sx_px p hq.al).mpr sq, fun a b l e => ?_⟩, ?_, by simp, by simp⟩
    · have e : A.length :: q = a :: b :: l := e
      rw [List.cons.injEq] at e
      rw [← e.1]
      show rk (A ++ [mkT A A.length 0 x [] []]) A.length ≤ _
      rw [g3]
      exact Nat.zero_le _
    · show (jb (A ++ [mkT A A.length 0 x [] []]) A.length ++ fm (A ++ [mkT A A.length 0 x [] []]) n_jobs q).Perm _
      rw [g4, f1]
  · rw [if_neg c]
    have c1 : law = 1 := by omega
    obtain ⟨k1, k2, k3, k4, k5, k6, k7, k8, k9⟩ := carry_ok q g1 g2 (hq.px p) ((sx_px p hq.al).mpr (hk.1 c1)) (fun z hz => by rw [g3]; exact Nat.zero_le _) (by rw [g4, f1]; exact hl)
    rw [g4, f1] at k6
    refine ⟨k1, p.trans k2, k3, Qk.of_sx k4, k6, ?_, by omega⟩
    rw [k7]
    simp
theorem s_put2 (law : Nat) (A : hA) (x a b : Nat) (q : List Nat) : s_put law A x (a :: b :: q) = if law = 0 ∧ rk A a = rk A b then (s_link A a b ++ [s_bn (s_link A a b) A.length x], (A.length + 1) :: q, 1) else if law = 0 then (A ++ [mkT A A.length 0 x [] []], A.length :: a :: b :: q, 0) else s_carry (A ++ [mkT A A.length 0 x [] []]) A.length (a :: b :: q) := rfl
theorem put_ok {law : Nat} {A : hA} (h : Wf law A) {x : Nat} {q : List Nat} (hx : Hl A [x]) (hq : Tl A q) (hk : Qk law A q) (hl : (jb A x ++ fm A n_jobs q).length ≤ 24) (hlaw : law = 0 ∨ law = 1) : Pr law A (jb A x ++ fm A n_jobs q) (q.length + 1) (s_put law A x q) := by
  cases q with
  | nil => exact put1_ok h hx hq hk hl hlaw (fun _ a b l e => by cases e)
  | cons a q =>
    cases q with
    | nil => exact put1_ok h hx hq hk hl hlaw (fun _ a b l e => by cases e)
    | cons b q =>
      rw [s_put2]
      by_cases c : law = 0 ∧ rk A a = rk A b
      · rw [if_pos c]
        obtain ⟨ha, hq1⟩ := tl_cons.mp hq
        obtain ⟨hb, hq2⟩ := tl_cons.mp hq1
        have hl' : (jb A x ++ (jb A a ++ (jb A b ++ fm A n_jobs q))).length ≤ 24 := hl
        simp only [List.length_append] at hl'
        obtain ⟨k1, k2, k3, k4, k5, k6⟩ := link_ok h ha hb c.2 (by omega)
        have zl := (k3 A.length (by simp)).2.1
        have lk := k5.length_eq
        rw [List.length_append] at lk
        have xl := (hx x (by simp)).2.1
        have hsg : (n_sg (a_g (s_link A a b) A.length)).length + 1 ≤ rk (s_link A a b) A.length := by
          rw [k4, show a_g (s_link A a b) A.length = s_ln A a b from a_g_new]
          show (n_sg (a_g A (s_up A a b))).length + 1 ≤ _
          unfold s_up
          split
          · obtain ⟨r, y, sg, bl, e, -, -, -, -, hs, -⟩ := wf_tree h hb
            rw [c.2, rk, e]
            exact Nat.succ_le_succ hs
          · obtain ⟨r, y, sg, bl, e, -, -, -, -, hs, -⟩ := wf_tree h ha
            rw [rk, e]
            exact Nat.succ_le_succ hs
        obtain ⟨g1, g2, g3, g4⟩ := beside_ok k1 k3 (hx.px k2) hsg (by rw [jb_px k2 xl]; omega)
        have p2 : Px (s_link A a b) (s_link A a b ++ [s_bn (s_link A a b) A.length x]) := Px.snoc _ _
        have p := k2.trans p2
        rw [k6] at g2 g3 g4
        have f1 := fm_px p n_jobs hq2.al
        have sq : Sx A (b :: q) := hk.2.1
        have sq' := List.pairwise_cons.mp sq
        refine ⟨g1, p, tl_cons.mpr ⟨g2, hq2.px p⟩, ⟨fun e => by omega, (sx_px p hq2.al).mpr sq'.2, fun u v l e => ?_⟩, ?_, ?_, ?_⟩
        · have e : (A.length + 1) :: q = u :: v :: l := e
          rw [List.cons.injEq] at e
          obtain ⟨e1, e2⟩ := e
          have hv : v ∈ q := by rw [e2]; simp
          show rk (s_link A a b ++ [s_bn (s_link A a b) A.length x]) u ≤ rk (s_link A a b ++ [s_bn (s_link A a b) A.length x]) v
          rw [← e1, g3, k4, rk_px p (hq2 v hv).2.1]
          have := sq'.1 v hv
          omega
        · show (jb (s_link A a b ++ [s_bn (s_link A a b) A.length x]) (A.length + 1) ++ fm (s_link A a b ++ [s_bn (s_link A a b) A.length x]) n_jobs q).Perm (jb A x ++ (jb A a ++ (jb A b ++ fm A n_jobs q)))
          rw [f1]
          refine (List.Perm.append_right _ g4).trans ?_
          rw [jb_px k2 xl]
          refine (List.Perm.append_right _ (List.Perm.append_right _ k5)).trans ?_
          have e2 : jb A x ++ (jb A a ++ (jb A b ++ fm A n_jobs q)) = (jb A x ++ (jb A a ++ jb A b)) ++ fm A n_jobs q := by simp
          rw [e2]
          exact List.Perm.append_right _ List.perm_append_comm
        · show (s_link A a b ++ [_]).length = A.length + 1 + 1
          rw [List.length_append, k6]
          rfl
        · show ((A.length + 1) :: q).length + 1 ≤ (a :: b :: q).length + 1
          simp
      · rw [if_neg c]
        exact put1_ok h hx hq hk hl hlaw (fun e u v l e2 e3 => c ⟨e, by cases e2; exact e3⟩)

theorem hl_cons {A : hA} {x : Nat} {q : List Nat} : Hl A (x :: q) ↔ Hl A [x] ∧ Hl A q := by
  constructor
  · exact fun h => ⟨fun y hy => h y (by simp at hy; simp [hy]), fun y hy => h y (by simp [hy])⟩
  · intro ⟨h1, h2⟩ y hy
    rcases List.mem_cons.mp hy with rfl | hy
    · exact h1 _ (by simp)
    · exact h2 y hy
theorem puts_ok {law : Nat} (hlaw : law = 0 ∨ law = 1) : ∀ (hs : List Nat) {A : hA} {q : List Nat}, Wf law A → Hl A hs → Tl A q → Qk law A q → (fm A n_jobs hs ++ fm A n_jobs q).length ≤ 24 →
    Wf law (s_puts law A hs q).1 ∧ Px A (s_puts law A hs q).1 ∧ Tl (s_puts law A hs q).1 (s_puts law A hs q).2.1 ∧ Qk law (s_puts law A hs q).1 (s_puts law A hs q).2.1 ∧ (fm (s_puts law A hs q).1 n_jobs (s_puts law A hs q).2.1).Perm (fm A n_jobs hs ++ fm A n_jobs q) ∧ (s_puts law A hs q).1.length = A.length + hs.length + (s_puts law A hs q).2.2 ∧ (s_puts law A hs q).2.1.length + (s_puts law A hs q).2.2 ≤ q.length + hs.length
  | [], A, q, h, hh, hq, hk, hl => ⟨h, Px.refl _, hq, hk, List.Perm.refl _, rfl, Nat.le_refl _⟩
  | x :: hs, A, q, h, hh, hq, hk, hl => by
    obtain ⟨hx, hh'⟩ := hl_cons.mp hh
    have hl' : ((jb A x ++ fm A n_jobs hs) ++ fm A n_jobs q).length ≤ 24 := hl
    simp only [List.length_append] at hl'
    obtain ⟨g1, g2, g3, g4, g5, g6, g7⟩ := put_ok h hx hq hk (by rw [List.length_append]; omega) hlaw
    have f1 := fm_px g2 n_jobs hh'.al
    have l1 := g5.length_eq
    rw [List.length_append] at l1
    obtain ⟨k1, k2, k3, k4, k5, k6, k7⟩ := puts_ok hlaw hs g1 (hh'.px g2) g3 g4 (by rw [f1, List.length_append]; omega)
    rw [f1] at k5
    refine ⟨k1, g2.trans k2, k3, k4, ?_, ?_, ?_⟩
    · refine k5.trans ?_
      show List.Perm _ ((jb A x ++ fm A n_jobs hs) ++ fm A n_jobs q)
      refine (List.Perm.append_left _ g5).trans ?_
      rw [← List.append_assoc]
      exact List.Perm.append_right _ List.perm_append_comm
    · show (s_puts law (s_put law A x q).1 hs (s_put law A x q).2.1).1.length = A.length + (hs.length + 1) + ((s_put law A x q).2.2 + (s_puts law (s_put law A x q).1 hs (s_put law A x q).2.1).2.2)
      omega
    · show (s_puts law (s_put law A x q).1 hs (s_put law A x q).2.1).2.1.length + ((s_put law A x q).2.2 + (s_puts law (s_put law A x q).1 hs (s_put law A x q).2.1).2.2) ≤ q.length + (hs.length + 1)
      omega
/-- turns of trees and of all their jobs -/
theorem tn_ge {law : Nat} {A : hA} (h : Wf law A) {q : List Nat} (hq : Tl A q) {t : Nat} (hj : ∀ j ∈ fm A n_jobs q, t ≤ j) : ∀ x ∈ q, t ≤ tn A x := fun x hx =>
  hj _ (mem_fm.mpr ⟨x, hx, (h.2.2 x (hq x hx).1 (hq x hx).2.1).2.2.2.2.1⟩)
theorem jobs_ge {law : Nat} {A : hA} (h : Wf law A) {q : List Nat} (hq : Al A.length q) {t : Nat} (ht : ∀ x ∈ q, t ≤ tn A x) : ∀ j ∈ fm A n_jobs q, t ≤ j ∧ j < 30000 := fun j hj => by
  obtain ⟨x, hx, hjx⟩ := mem_fm.mp hj
  have g := (h.2.2 x (hq x hx).1 (hq x hx).2).2.2.2.1 j hjx
  exact ⟨Nat.le_trans (ht x hx) g.1, g.2⟩
/-- what a heap that was made is: its number, its jobs -/
def Hr (law : Nat) (A : hA) (J : List Nat) (g : hA × Nat × Nat) : Prop := Wf law g.1 ∧ Px A g.1 ∧ Hl g.1 [g.2.1] ∧ (jb g.1 g.2.1).Perm J
theorem heap_new {law : Nat} {A : hA} (h : Wf law A) {t : Nat} {q : List Nat} (hq : Tl A q) (hk : Qk law A q) (hj : ∀ j ∈ fm A n_jobs q, t ≤ j) (h3 : t < 30000) (hs : (fm A n_jobs q).length ≤ 23) : Wf law (A ++ [mkH A A.length t q]) ∧ Hl (A ++ [mkH A A.length t q]) [A.length] ∧ jb (A ++ [mkH A A.length t q]) A.length = t :: fm A n_jobs q ∧ tn (A ++ [mkH A A.length t q]) A.length = t := by
  have ea : a_g (A ++ [mkH A A.length t q]) A.length = mkH A A.length t q := a_g_new
  exact ⟨wf_newH h hq (tn_ge h hq hj) hk h3 hs, hl_one (by have := h.1; omega) (by simp) (by rw [ea]; rfl), by rw [jb, ea]; rfl, by rw [tn, ea]; rfl⟩
theorem join_ok {law : Nat} {A : hA} (h : Wf law A) (hlaw : law = 0 ∨ law = 1) {x y : Nat} (hx : Hl A [x]) (hy : Hl A [y]) (hl : (jb A x).length + (jb A y).length ≤ 24) : Hr law A (jb A x ++ jb A y) (s_join law A x y) := by
  obtain ⟨x1, x2, x3⟩ := hx x (by simp)
  obtain ⟨y1, y2, y3⟩ := hy y (by simp)
  have key : ∀ u d, Hl A [u] → Hl A [d] → tn A u ≤ tn A d → (jb A u).length + (jb A d).length ≤ 24 → Hr law A (jb A u ++ jb A d) ((s_put law A d (n_bl (a_g A u))).1 ++ [mkH (s_put law A d (n_bl (a_g A u))).1 (s_put law A d (n_bl (a_g A u))).1.length (tn A u) (s_put law A d (n_bl (a_g A u))).2.1], (s_put law A d (n_bl (a_g A u))).1.length, (s_put law A d (n_bl (a_g A u))).2.2) := by
    intro u d hu hd ht hl
    obtain ⟨t, q, e, hq, hk, h3⟩ := wf_heap h hu
    obtain ⟨u1, u2, u3⟩ := hu u (by simp)
    obtain ⟨d1, d2, d3⟩ := hd d (by simp)
    have eb : n_bl (a_g A u) = q := by rw [e]; rfl
    have et : tn A u = t := by rw [tn, e]; rfl
    have ej : jb A u = t :: fm A n_jobs q := by rw [jb, e]; rfl
    rw [eb, et]
    have hT : Tl A q := fun z hz => by have g := hq z hz; exact ⟨g.1, by omega, g.2.2.1⟩
    have ejl := congrArg List.length ej
    rw [List.length_cons] at ejl
    obtain ⟨g1, g2, g3, g4, g5, g6, g7⟩ := put_ok h hd hT hk (by rw [List.length_append]; omega) hlaw
    have l1 := g5.length_eq
    rw [List.length_append] at l1
    obtain ⟨k1, k2, k3, k4⟩ := heap_new g1 g3 g4 (t := t) (fun j hj => by
      rcases List.mem_append.mp (g5.mem_iff.mp hj) with hj | hj
      · have := (h.2.2 d d1 d2).2.2.2.1 j hj
        omega
      · exact (jobs_ge h hT.al (fun z hz => (hq z hz).2.2.2) j hj).1) h3 (by omega)
    refine ⟨k1, g2.trans (Px.snoc _ _), k2, ?_⟩
    show (jb _ (s_put law A d q).1.length).Perm _
    rw [k3, ej, List.cons_append]
    exact List.Perm.cons _ (g5.trans List.perm_append_comm)
  unfold s_join
  rw [if_neg (by omega), if_neg (by omega)]
  by_cases c : tn A y < tn A x
  · simp only [c, if_true]
    obtain ⟨a1, a2, a3, a4⟩ := key y x hy hx (by omega) (by omega)
    exact ⟨a1, a2, a3, a4.trans List.perm_append_comm⟩
  · simp only [c, if_false]
    exact key x y hx hy (by omega) hl
