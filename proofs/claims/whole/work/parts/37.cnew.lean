/-! the class's cells: a heap, a tree more -/
theorem ce_new {c : Nat} {A : hA} {R : Nat} {m m' : hMem} {x : hN} (h : Ce c A R m) (hlen : A.length < 864) (hE : Ex c A.length R m m') (h9 : m' c 9 = ((A.length + 1 : Nat) : Int)) (h10 : m' c 10 = (R : Int)) (hx : Nr c m' R A.length x) : Ce c (A ++ [x]) R m' := by
  obtain ⟨e1, e2, e3, e4, e5, e6, e7, e8, e9, e10⟩ := h
  refine ⟨by rw [h9]; simp, h10, by simp, e4, by simp; omega, e6, by rw [(hE.1 0 (by omega)).1]; exact e7, by rw [(hE.1 0 (by omega)).2]; exact e8, by rw [a_g_app (by omega)]; exact e9, fun a ha => ?_⟩
  by_cases hl : a < A.length
  · rw [a_g_app hl]
    exact Nr.ex hE (Nat.le_refl _) hl (e10 a hl)
  · have : a = A.length := by simp at ha; omega
    subst this
    rw [a_g_new]
    exact hx
theorem ce_heap {c : Nat} {A : hA} {R t : Nat} {q : List Nat} {k : Int} {m : hMem} (h : Ce c A R m) (hlen : A.length < 864) (hk : Rw c m R k q) (hq : ∀ x ∈ q, x < A.length ∧ n_deep (a_g A x) ≤ 100000) (hql : q.length ≤ 2592) :
    ∃ m', f_X1_heap c (t : Int) k m = some ((A.length : Int), m') ∧ Ce c (A ++ [mkH A A.length t q]) R m' ∧ Ex c A.length R m m' ∧ Fr c (c + 10) m m' := by
  have h' := h
  obtain ⟨e1, e2, e3, e4, e5, e6, e7, e8, e9, e10⟩ := h'
  have m1 : ∃ m1 : hMem, m1 = hv_up (hv_up (hv_up (hv_up (hv_up (hv_up (hv_up (hv_up m c 9 ((A.length : Int) + 1)) (c + 1) A.length (t : Int)) (c + 2) A.length 0) (c + 3) A.length 0) (c + 4) A.length 0) (c + 5) A.length k) (c + 6) A.length 1) (c + 7) A.length 0 := ⟨_, rfl⟩
  obtain ⟨m1, em1⟩ := m1
  have hE1 : Ex c A.length R m m1 := by
    rw [em1]
    refine ⟨fun j hj => ⟨?_, ?_⟩, fun a ha i h1 h2 => ?_⟩
    · simp (disch := omega) only [hp_up_k]
    · simp (disch := omega) only [hp_up_k]
    · have hne : a ≠ A.length := by omega
      have : i = 1 ∨ i = 2 ∨ i = 3 ∨ i = 4 ∨ i = 5 ∨ i = 6 ∨ i = 7 := by omega
      rcases this with rfl | rfl | rfl | rfl | rfl | rfl | rfl <;> simp (disch := omega) only [hp_up_k, hp_up_j]
  have hF1 : Fr c (c + 10) m m1 := by
    rw [em1]
    exact (((((((((Fr.refl _ _ _).up (by omega)).up (by omega)).up (by omega)).up (by omega)).up (by omega)).up (by omega)).up (by omega)).up (by omega))
  obtain ⟨m', g1, g2, g3, g4⟩ := heap_loop (c := c) (a := A.length) e6 hlen q hv_FU A 0 1 0 k m1 (by show q.length < 1000000; omega) (by omega) (Rw.ex hE1 (Nat.le_refl _) hk) (by rw [(hE1.1 0 (by omega)).1]; exact e7) (by rw [(hE1.1 0 (by omega)).2]; exact e8) (fun x hx => by
    obtain ⟨x1, x2⟩ := hq x hx
    obtain ⟨-, -, -, -, -, n6, n7⟩ := e10 x x1
    exact ⟨x1, by rw [hE1.2 x x1 6 (by omega) (by omega)]; exact n6, by rw [hE1.2 x x1 7 (by omega) (by omega)]; exact n7, x2⟩) (by rw [em1]; simp (disch := omega) only [hp_up_k, hp_up_same]; rfl) (by rw [em1]; simp (disch := omega) only [hp_up_k, hp_up_same]; rfl) (by omega)
  have hE2 : Ex c A.length R m1 m' := ⟨fun j _ => ⟨g4 _ _ (by omega) (by omega), g4 _ _ (by omega) (by omega)⟩, fun a ha i h1 h2 => g4 _ _ (by omega) (by omega)⟩
  have hE := hE1.trans hE2 (Nat.le_refl _) (Nat.le_refl _)
  refine ⟨m', ?_, ce_new h hlen hE ?_ ?_ ⟨?_, ?_, ?_, ?_, ?_, ?_, ?_⟩, hE, ?_⟩
  · unfold f_X1_heap
    rw [e1, hp_lt_f (by omega) (by decide) (by omega), hp_lt_t (by omega) (by decide) (by omega)]
    rw [hp_set, hp_put]
    simp (disch := omega) only [hp_ast, Int.toNat_natCast]
    rw [← em1]
    exact g1
  · rw [g4 _ _ (by omega) (by omega), em1]
    simp (disch := omega) only [hp_up_k, hp_up_same]
    omega
  · rw [g4 _ _ (by omega) (by omega), em1]
    simp (disch := omega) only [hp_up_k, hp_up_j]
    exact e2
  · rw [g4 _ _ (by omega) (by omega), em1]
    simp (disch := omega) only [hp_up_k, hp_up_same]
    rfl
  · rw [g4 _ _ (by omega) (by omega), em1]
    simp (disch := omega) only [hp_up_k, hp_up_same]
    rfl
  · rw [g4 _ _ (by omega) (by omega), em1]
    simp (disch := omega) only [hp_up_k, hp_up_same]
    rfl
  · rw [g4 _ _ (by omega) (by omega), em1]
    simp (disch := omega) only [hp_up_k, hp_up_same]
    rfl
  · rw [g4 _ _ (by omega) (by omega), em1]
    simp (disch := omega) only [hp_up_k, hp_up_same]
    exact Rw.ex hE (Nat.le_refl _) hk
  · rw [g2]; rfl
  · rw [g3]
    show ((max 0 (mx A n_deep q) + 1 : Nat) : Int) = ((1 + mx A n_deep q : Nat) : Int)
    omega
  · intro z hz
    rw [show m' z = m1 z from funext fun j => g4 z j (by omega) (by omega)]
    exact hF1 z hz
theorem ce_tree {c : Nat} {A : hA} {R r x hd dp : Nat} {sg bl : List Nat} {ks kb : Int} {m : hMem} (h : Ce c A R m) (hlen : A.length < 864) (hx : x < A.length) (hks : Rw c m R ks sg) (hkb : Rw c m R kb bl) (h1 : n_holds (mkT A A.length r x sg bl) = hd) (h2 : n_deep (mkT A A.length r x sg bl) = dp) :
    ∃ m', f_X1_tree c (r : Int) (x : Int) ks kb (hd : Int) (dp : Int) m = some ((A.length : Int), m') ∧ Ce c (A ++ [mkT A A.length r x sg bl]) R m' ∧ Ex c A.length R m m' ∧ Fr c (c + 10) m m' := by
  have h' := h
  obtain ⟨e1, e2, e3, e4, e5, e6, e7, e8, e9, e10⟩ := h'
  have m1 : ∃ m1 : hMem, m1 = hv_up (hv_up (hv_up (hv_up (hv_up (hv_up (hv_up (hv_up m c 9 ((A.length : Int) + 1)) (c + 1) A.length (tn A x : Int)) (c + 2) A.length (r : Int)) (c + 3) A.length (x : Int)) (c + 4) A.length ks) (c + 5) A.length kb) (c + 6) A.length (hd : Int)) (c + 7) A.length (dp : Int) := ⟨_, rfl⟩
  obtain ⟨m1, em1⟩ := m1
  have hE : Ex c A.length R m m1 := by
    rw [em1]
    refine ⟨fun j hj => ⟨?_, ?_⟩, fun a ha i h1 h2 => ?_⟩
    · simp (disch := omega) only [hp_up_k]
    · simp (disch := omega) only [hp_up_k]
    · have : i = 1 ∨ i = 2 ∨ i = 3 ∨ i = 4 ∨ i = 5 ∨ i = 6 ∨ i = 7 := by omega
      rcases this with rfl | rfl | rfl | rfl | rfl | rfl | rfl <;> simp (disch := omega) only [hp_up_k, hp_up_j]
  have hF : Fr c (c + 10) m m1 := by
    rw [em1]
    exact (((((((((Fr.refl _ _ _).up (by omega)).up (by omega)).up (by omega)).up (by omega)).up (by omega)).up (by omega)).up (by omega)).up (by omega))
  have hT : m (c + 1) x = (tn A x : Int) := (e10 x hx).1
  refine ⟨m1, ?_, ce_new h hlen hE ?_ ?_ ⟨?_, ?_, ?_, ?_, ?_, ?_, ?_⟩, hE, hF⟩
  · unfold f_X1_tree
    rw [e1, hp_lt_f (by omega) (by decide) (by omega), hp_lt_t (by omega) (by decide) (by omega), hp_lt_f (by omega) (by decide) (by omega), hp_lt_t (by omega) (by decide) (by omega)]
    rw [hp_set, hp_put]
    rw [hp_ald (by omega) (by omega)]
    simp (disch := omega) only [hp_ast, Int.toNat_natCast, hp_up_k, hT, hv_ret]
    rw [← em1]
  · rw [em1]
    simp (disch := omega) only [hp_up_k, hp_up_same]
    omega
  · rw [em1]
    simp (disch := omega) only [hp_up_k, hp_up_j]
    exact e2
  · rw [em1]; simp (disch := omega) only [hp_up_k, hp_up_same]; rfl
  · rw [em1]; simp (disch := omega) only [hp_up_k, hp_up_same]; rfl
  · rw [em1]; simp (disch := omega) only [hp_up_k, hp_up_same]; rfl
  · rw [em1]
    simp (disch := omega) only [hp_up_k, hp_up_same]
    rw [← em1]
    exact Rw.ex hE (Nat.le_refl _) hks
  · rw [em1]
    simp (disch := omega) only [hp_up_k, hp_up_same]
    rw [← em1]
    exact Rw.ex hE (Nat.le_refl _) hkb
  · rw [em1, h1]; simp (disch := omega) only [hp_up_k, hp_up_same]
  · rw [em1, h2]; simp (disch := omega) only [hp_up_same]
