/-! heaps and trees as a growing list of nodes: what is made, in the class's order -/
def su (A : hA) (f : hN → Nat) : List Nat → Nat
  | [] => 0
  | a :: l => f (a_g A a) + su A f l
def mx (A : hA) (f : hN → Nat) : List Nat → Nat
  | [] => 0
  | a :: l => max (f (a_g A a)) (mx A f l)
def fm (A : hA) (f : hN → List Nat) : List Nat → List Nat
  | [] => []
  | a :: l => f (a_g A a) ++ fm A f l
def mkH (A : hA) (a t : Nat) (q : List Nat) : hN := ((0, t, 0, [], q), (1 + su A n_holds q, 1 + mx A n_deep q, t :: fm A n_jobs q, a :: fm A n_reach q, 1 + mx A n_ht q))
def mkT (A : hA) (a r h : Nat) (sg bl : List Nat) : hN := ((r, n_turn (a_g A h), h, sg, bl), (n_holds (a_g A h) + su A n_holds sg + su A n_holds bl, max (n_deep (a_g A h)) (max (mx A n_deep sg) (mx A n_deep bl)), n_jobs (a_g A h) ++ (fm A n_jobs sg ++ fm A n_jobs bl), a :: (n_reach (a_g A h) ++ (fm A n_reach sg ++ fm A n_reach bl)), 1 + max (n_ht (a_g A h)) (max (mx A n_ht sg) (mx A n_ht bl))))
def rk (A : hA) (a : Nat) : Nat := n_rank (a_g A a)
def tn (A : hA) (a : Nat) : Nat := n_turn (a_g A a)
def jb (A : hA) (a : Nat) : List Nat := n_jobs (a_g A a)
def s_up (A : hA) (x y : Nat) : Nat := if tn A y < tn A x then y else x
def s_dn (A : hA) (x y : Nat) : Nat := if tn A y < tn A x then x else y
def s_ln (A : hA) (x y : Nat) : hN := mkT A A.length (rk A (s_up A x y) + 1) (n_head (a_g A (s_up A x y))) (n_sg (a_g A (s_up A x y))) (s_dn A x y :: n_bl (a_g A (s_up A x y)))
def s_link (A : hA) (x y : Nat) : hA := A ++ [s_ln A x y]
def s_carry : hA → Nat → List Nat → hA × List Nat × Nat
  | A, t, [] => (A, [t], 0)
  | A, t, x :: q => if rk A t < rk A x then (A, t :: x :: q, 0) else
    ((s_carry (s_link A t x) A.length q).1, (s_carry (s_link A t x) A.length q).2.1, (s_carry (s_link A t x) A.length q).2.2 + 1)
def s_cf (A : hA) : List Nat → hA × List Nat × Nat
  | [] => (A, [], 0)
  | x :: q => s_carry A x q
/-- the new tree beside which a heap stands -/
def s_bn (A : hA) (t h : Nat) : hN := if tn A t < tn A h then mkT A A.length (rk A t) (n_head (a_g A t)) (h :: n_sg (a_g A t)) (n_bl (a_g A t)) else mkT A A.length (rk A t) h (n_head (a_g A t) :: n_sg (a_g A t)) (n_bl (a_g A t))
def s_put (law : Nat) (A : hA) (h : Nat) (q : List Nat) : hA × List Nat × Nat :=
  match q with
  | x :: y :: r => if law = 0 ∧ rk A x = rk A y then (s_link A x y ++ [s_bn (s_link A x y) A.length h], (A.length + 1) :: r, 1) else
      if law = 0 then (A ++ [mkT A A.length 0 h [] []], A.length :: q, 0) else s_carry (A ++ [mkT A A.length 0 h [] []]) A.length q
  | _ => if law = 0 then (A ++ [mkT A A.length 0 h [] []], A.length :: q, 0) else s_carry (A ++ [mkT A A.length 0 h [] []]) A.length q
def s_mg : Nat → hA → List Nat → List Nat → hA × List Nat × Nat
  | 0, A, a, _ => (A, a, 0)
  | _ + 1, A, [], b => (A, b, 0)
  | _ + 1, A, x :: a, [] => (A, x :: a, 0)
  | n + 1, A, x :: a, y :: b =>
    if rk A x < rk A y then (s_mg n A a (y :: b) |>.1, x :: (s_mg n A a (y :: b)).2.1, (s_mg n A a (y :: b)).2.2)
    else if rk A y < rk A x then ((s_mg n A (x :: a) b).1, y :: (s_mg n A (x :: a) b).2.1, (s_mg n A (x :: a) b).2.2)
    else ((s_carry (s_mg n (s_link A x y) a b).1 A.length (s_mg n (s_link A x y) a b).2.1).1, (s_carry (s_mg n (s_link A x y) a b).1 A.length (s_mg n (s_link A x y) a b).2.1).2.1, 1 + (s_mg n (s_link A x y) a b).2.2 + (s_carry (s_mg n (s_link A x y) a b).1 A.length (s_mg n (s_link A x y) a b).2.1).2.2)
def s_merge (A : hA) (a b : List Nat) : hA × List Nat × Nat :=
  ((s_mg ((s_cf A a).2.1.length + (s_cf (s_cf A a).1 b).2.1.length) (s_cf (s_cf A a).1 b).1 (s_cf A a).2.1 (s_cf (s_cf A a).1 b).2.1).1,
   (s_mg ((s_cf A a).2.1.length + (s_cf (s_cf A a).1 b).2.1.length) (s_cf (s_cf A a).1 b).1 (s_cf A a).2.1 (s_cf (s_cf A a).1 b).2.1).2.1,
   (s_cf A a).2.2 + (s_cf (s_cf A a).1 b).2.2 + (s_mg ((s_cf A a).2.1.length + (s_cf (s_cf A a).1 b).2.1.length) (s_cf (s_cf A a).1 b).1 (s_cf A a).2.1 (s_cf (s_cf A a).1 b).2.1).2.2)
def s_least (A : hA) : Nat → List Nat → Nat
  | t, [] => t
  | t, x :: q => s_least A (if tn A x < tn A t then x else t) q
/-- without the first place at which it stands -/
def s_but (t : Nat) : List Nat → List Nat
  | [] => []
  | x :: q => if x = t then q else x :: s_but t q
def s_puts (law : Nat) : hA → List Nat → List Nat → hA × List Nat × Nat
  | A, [], q => (A, q, 0)
  | A, h :: hs, q => ((s_puts law (s_put law A h q).1 hs (s_put law A h q).2.1).1, (s_puts law (s_put law A h q).1 hs (s_put law A h q).2.1).2.1, (s_put law A h q).2.2 + (s_puts law (s_put law A h q).1 hs (s_put law A h q).2.1).2.2)
/-- the heap 0 is the empty one -/
def s_join (law : Nat) (A : hA) (x y : Nat) : hA × Nat × Nat :=
  if x = 0 then (A, y, 0) else if y = 0 then (A, x, 0) else
    let u := if tn A y < tn A x then y else x
    let d := if tn A y < tn A x then x else y
    let p := s_put law A d (n_bl (a_g A u))
    (p.1 ++ [mkH p.1 p.1.length (tn A u) p.2.1], p.1.length, p.2.2)
def s_take (law : Nat) (A : hA) (h : Nat) : hA × Nat × Nat :=
  match n_bl (a_g A h) with
  | [] => (A, 0, 0)
  | x :: q =>
    let o := s_least A x q
    let g1 := s_merge A (n_bl (a_g A o)).reverse (s_but o (x :: q))
    let g2 := s_puts law g1.1 (n_sg (a_g A o)) g1.2.1
    let g3 := s_merge g2.1 (n_bl (a_g A (n_head (a_g A o)))) g2.2.1
    (g3.1 ++ [mkH g3.1 g3.1.length (tn A o) g3.2.1], g3.1.length, g1.2.2 + g2.2.2 + g3.2.2)
/-- well made -/
def Px (A A' : hA) : Prop := ∃ X, A' = A ++ X
theorem Px.refl (A : hA) : Px A A := ⟨[], by simp⟩
theorem Px.trans {A B C : hA} (h1 : Px A B) (h2 : Px B C) : Px A C := by
  obtain ⟨X, rfl⟩ := h1
  obtain ⟨Y, rfl⟩ := h2
  exact ⟨X ++ Y, by simp⟩
theorem Px.snoc (A : hA) (x : hN) : Px A (A ++ [x]) := ⟨[x], rfl⟩
theorem Px.len {A B : hA} (h : Px A B) : A.length ≤ B.length := by obtain ⟨X, rfl⟩ := h; simp
theorem Px.g {A B : hA} (h : Px A B) {a : Nat} (ha : a < A.length) : a_g B a = a_g A a := by
  obtain ⟨X, rfl⟩ := h
  simp [a_g, List.getD_eq_getElem?_getD, List.getElem?_append_left ha]
def Al (n : Nat) (q : List Nat) : Prop := ∀ x ∈ q, 0 < x ∧ x < n
theorem su_px {A B : hA} (h : Px A B) (f : hN → Nat) : ∀ {q : List Nat}, Al A.length q → su B f q = su A f q
  | [], _ => rfl
  | a :: l, hq => by
    show f (a_g B a) + su B f l = f (a_g A a) + su A f l
    rw [h.g (hq a (by simp)).2, su_px h f (fun x hx => hq x (by simp [hx]))]
theorem mx_px {A B : hA} (h : Px A B) (f : hN → Nat) : ∀ {q : List Nat}, Al A.length q → mx B f q = mx A f q
  | [], _ => rfl
  | a :: l, hq => by
    show max (f (a_g B a)) (mx B f l) = max (f (a_g A a)) (mx A f l)
    rw [h.g (hq a (by simp)).2, mx_px h f (fun x hx => hq x (by simp [hx]))]
theorem fm_px {A B : hA} (h : Px A B) (f : hN → List Nat) : ∀ {q : List Nat}, Al A.length q → fm B f q = fm A f q
  | [], _ => rfl
  | a :: l, hq => by
    show f (a_g B a) ++ fm B f l = f (a_g A a) ++ fm A f l
    rw [h.g (hq a (by simp)).2, fm_px h f (fun x hx => hq x (by simp [hx]))]
theorem fm_app (A : hA) (f : hN → List Nat) : ∀ (p q : List Nat), fm A f (p ++ q) = fm A f p ++ fm A f q
  | [], q => rfl
  | a :: p, q => by show f (a_g A a) ++ fm A f (p ++ q) = _; rw [fm_app A f p q, ← List.append_assoc]; rfl
theorem su_app (A : hA) (f : hN → Nat) : ∀ (p q : List Nat), su A f (p ++ q) = su A f p + su A f q
  | [], q => by simp [su]
  | a :: p, q => by show f (a_g A a) + su A f (p ++ q) = f (a_g A a) + su A f p + su A f q; rw [su_app A f p q]; omega
theorem mkH_px {A B : hA} (h : Px A B) {a t : Nat} {q : List Nat} (hq : Al A.length q) : mkH B a t q = mkH A a t q := by
  simp [mkH, su_px h _ hq, mx_px h _ hq, fm_px h _ hq]
theorem mkT_px {A B : hA} (h : Px A B) {a r x : Nat} {sg bl : List Nat} (hx : x < A.length) (h1 : Al A.length sg) (h2 : Al A.length bl) : mkT B a r x sg bl = mkT A a r x sg bl := by
  simp [mkT, h.g hx, su_px h _ h1, mx_px h _ h1, fm_px h _ h1, su_px h _ h2, mx_px h _ h2, fm_px h _ h2]
/-- ranks go up -/
def Sx (A : hA) (q : List Nat) : Prop := q.Pairwise (fun x y => rk A x < rk A y)
def Qk (law : Nat) (A : hA) (q : List Nat) : Prop := (law = 1 → Sx A q) ∧ Sx A q.tail ∧ ∀ x y l, q = x :: y :: l → rk A x ≤ rk A y
def dn (r : Nat) : List Nat := (List.range r).reverse
def WH (law : Nat) (A : hA) (a : Nat) : Prop := ∃ t q, a_g A a = mkH A a t q ∧ (∀ x ∈ q, 0 < x ∧ x < a ∧ n_head (a_g A x) ≠ 0 ∧ t ≤ tn A x) ∧ Qk law A q ∧ t < 30000
def WT (A : hA) (a : Nat) : Prop := ∃ r h sg bl, a_g A a = mkT A a r h sg bl ∧ (0 < h ∧ h < a ∧ n_head (a_g A h) = 0) ∧ (∀ x ∈ sg, 0 < x ∧ x < a ∧ n_head (a_g A x) = 0 ∧ tn A h ≤ tn A x) ∧ (∀ x ∈ bl, 0 < x ∧ x < a ∧ n_head (a_g A x) ≠ 0 ∧ tn A h ≤ tn A x) ∧ bl.map (rk A) = dn r ∧ sg.length ≤ r ∧ 2 ^ r + sg.length + n_holds (a_g A h) ≤ n_holds (a_g A a) + 1
def Wn (law : Nat) (A : hA) (a : Nat) : Prop := (WH law A a ∨ WT A a) ∧ n_holds (a_g A a) ≤ 24 ∧ n_holds (a_g A a) = (n_jobs (a_g A a)).length ∧ (∀ j ∈ n_jobs (a_g A a), tn A a ≤ j ∧ j < 30000) ∧ tn A a ∈ n_jobs (a_g A a) ∧ n_deep (a_g A a) ≤ n_holds (a_g A a) ∧ n_ht (a_g A a) + (if n_head (a_g A a) = 0 then 1 else 0) ≤ 2 * n_holds (a_g A a) ∧ (∀ x ∈ n_reach (a_g A a), 0 < x ∧ x ≤ a ∧ ∀ y ∈ n_reach (a_g A x), y ∈ n_reach (a_g A a)) ∧ a ∈ n_reach (a_g A a)
def Wf (law : Nat) (A : hA) : Prop := 1 ≤ A.length ∧ a_g A 0 = n_0 ∧ ∀ a, 0 < a → a < A.length → Wn law A a
