/-! the class's cells: reading and making -/
section CCE
variable {c : Nat} {A : hA} {R : Nat} {m : hMem}
theorem Ce.nr (h : Ce c A R m) {a : Nat} (ha : a < A.length) : Nr c m R a (a_g A a) := h.2.2.2.2.2.2.2.2.2 a ha
theorem Ce.lt (h : Ce c A R m) : A.length ≤ 864 := h.2.2.2.2.1
theorem ce_turn (h : Ce c A R m) {a : Nat} (ha : a < A.length) : f_X1_turnOf c (a : Int) m = some ((tn A a : Int), m) := by
  have h1 := h.lt
  have h2 := (h.nr ha).1
  unfold f_X1_turnOf
  simp (disch := omega) only [hp_lt_f, hp_lt_t, hp_ald, Int.toNat_natCast, hv_ret]
  rw [h2]; rfl
theorem ce_rank (h : Ce c A R m) {a : Nat} (ha : a < A.length) : f_X1_rankOf c (a : Int) m = some ((rk A a : Int), m) := by
  have h1 := h.lt
  have h2 := (h.nr ha).2.1
  unfold f_X1_rankOf
  simp (disch := omega) only [hp_lt_f, hp_lt_t, hp_ald, Int.toNat_natCast, hv_ret]
  rw [h2]; rfl
theorem ce_head (h : Ce c A R m) {a : Nat} (ha : a < A.length) : f_X1_headOf c (a : Int) m = some ((n_head (a_g A a) : Int), m) := by
  have h1 := h.lt
  have h2 := (h.nr ha).2.2.1
  unfold f_X1_headOf
  simp (disch := omega) only [hp_lt_f, hp_lt_t, hp_ald, Int.toNat_natCast, hv_ret]
  rw [h2]
theorem ce_singles (h : Ce c A R m) {a : Nat} (ha : a < A.length) : ∃ k, f_X1_singlesOf c (a : Int) m = some (k, m) ∧ Rw c m R k (n_sg (a_g A a)) := by
  have h1 := h.lt
  have h2 := (h.nr ha).2.2.2.1
  refine ⟨m (c + 4) a, ?_, h2⟩
  unfold f_X1_singlesOf
  simp (disch := omega) only [hp_lt_f, hp_lt_t, hp_ald, Int.toNat_natCast, hv_ret]
theorem ce_below (h : Ce c A R m) {a : Nat} (ha : a < A.length) : ∃ k, f_X1_belowOf c (a : Int) m = some (k, m) ∧ Rw c m R k (n_bl (a_g A a)) := by
  have h1 := h.lt
  have h2 := (h.nr ha).2.2.2.2.1
  refine ⟨m (c + 5) a, ?_, h2⟩
  unfold f_X1_belowOf
  simp (disch := omega) only [hp_lt_f, hp_lt_t, hp_ald, Int.toNat_natCast, hv_ret]
theorem ce_holds (h : Ce c A R m) {a : Nat} (ha : a < A.length) : f_X1_holdsOf c (a : Int) m = some ((n_holds (a_g A a) : Int), m) := by
  have h1 := h.lt
  have h2 := (h.nr ha).2.2.2.2.2.1
  unfold f_X1_holdsOf
  simp (disch := omega) only [hp_lt_f, hp_lt_t, hp_ald, Int.toNat_natCast, hv_ret]
  rw [h2]
theorem ce_deep (h : Ce c A R m) {a : Nat} (ha : a < A.length) : f_X1_deepOf c (a : Int) m = some ((n_deep (a_g A a) : Int), m) := by
  have h1 := h.lt
  have h2 := (h.nr ha).2.2.2.2.2.2
  unfold f_X1_deepOf
  simp (disch := omega) only [hp_lt_f, hp_lt_t, hp_ald, Int.toNat_natCast, hv_ret]
  rw [h2]
theorem rw_first {k : Int} {l : List Nat} (hk : Rw c m R k l) (hR : R ≤ 2592) (h0 : m (c + 8) 0 = 0) : f_X1_firstOf c k m = some (((l.headD 0 : Nat) : Int), m) := by
  have hl := hk.lt hR
  unfold f_X1_firstOf
  simp (disch := omega) only [hp_lt_f, hp_lt_t, hp_ald, hv_ret]
  cases l with
  | nil => rw [show k = 0 from hk]; simp [h0]
  | cons x l =>
    obtain ⟨j, h1, h2, h3, h4, h5⟩ := hk
    rw [h1, Int.toNat_natCast, h4]; rfl
theorem rw_rest {k : Int} {l : List Nat} (hk : Rw c m R k l) (hR : R ≤ 2592) (h0 : m (c + 9) 0 = 0) : ∃ k', f_X1_restOf c k m = some (k', m) ∧ Rw c m R k' l.tail := by
  have hl := hk.lt hR
  refine ⟨m (c + 9) k.toNat, ?_, ?_⟩
  · unfold f_X1_restOf
    simp (disch := omega) only [hp_lt_f, hp_lt_t, hp_ald, hv_ret]
  · cases l with
    | nil => rw [show k = 0 from hk]; exact h0
    | cons x l =>
      obtain ⟨j, h1, h2, h3, h4, h5⟩ := hk
      rw [h1, Int.toNat_natCast]; exact h5
theorem ce_first (h : Ce c A R m) {k : Int} {l : List Nat} (hk : Rw c m R k l) : f_X1_firstOf c k m = some (((l.headD 0 : Nat) : Int), m) := rw_first hk h.2.2.2.2.2.1 h.2.2.2.2.2.2.1
theorem ce_rest (h : Ce c A R m) {k : Int} {l : List Nat} (hk : Rw c m R k l) : ∃ k', f_X1_restOf c k m = some (k', m) ∧ Rw c m R k' l.tail := rw_rest hk h.2.2.2.2.2.1 h.2.2.2.2.2.2.2.1
theorem fe_max {x y : Int} (hx : hv_R32 x) (hy : hv_R32 y) : f_J9_max_7cf53 x y m = some (max x y, m) := by
  unfold f_J9_max_7cf53
  by_cases h : x < y
  · rw [hp_lt_t hx hy h, show max x y = y by omega]; rfl
  · rw [hp_lt_f hx hy (by omega), show max x y = x by omega]; rfl
end CCE
/-- the new heap's sums, row by row -/
theorem heap_loop {c a R : Nat} (hR : R ≤ 2592) (ha : a < 864) : ∀ (q : List Nat) (n : Nat) (A : hA) (i S D : Nat) (k : Int) (m : hMem), q.length < n → i + q.length ≤ 2592 → Rw c m R k q → m (c + 8) 0 = 0 → m (c + 9) 0 = 0 → (∀ x ∈ q, x < a ∧ m (c + 6) x = (n_holds (a_g A x) : Int) ∧ m (c + 7) x = (n_deep (a_g A x) : Int) ∧ n_deep (a_g A x) ≤ 100000) → m (c + 6) a = (S : Int) → m (c + 7) a = (D : Int) → D ≤ 100000 →
    ∃ m', L_X1_heap_90 c n (a : Int) k (i : Int) m = some ((a : Int), m') ∧ m' (c + 6) a = ((S + su A n_holds q : Nat) : Int) ∧ m' (c + 7) a = ((max D (mx A n_deep q) + 1 : Nat) : Int) ∧ ∀ k' j, ¬ (k' = c + 6 ∧ j = a) → ¬ (k' = c + 7 ∧ j = a) → m' k' j = m k' j
  | [], n + 1, A, i, S, D, k, m, hn, hi, hk, h8, h9, hq, hS, hD, hD2 => by
    have hk0 : k = 0 := hk
    refine ⟨hv_up m (c + 7) a ((D : Int) + 1), ?_, ?_, ?_, ?_⟩
    · show B_X1_heap_90 c (L_X1_heap_90 c n) (a : Int) k (i : Int) m = _
      unfold B_X1_heap_90 J_X1_heap_161
      simp (disch := omega) only [hk0, hp_eq_t, hp_ald, hp_ast, Int.toNat_natCast, hv_ret, hD]
    · rw [hp_up_k _ _ _ _ (by omega), hS]; simp [su]
    · rw [hp_up_same]; simp [mx]
    · intro k' j h1 h2
      by_cases e : k' = c + 7
      · subst e
        rw [hp_up_j _ _ _ (by intro e; exact h2 ⟨rfl, e⟩)]
      · rw [hp_up_k _ _ _ _ e]
  | x :: q, n + 1, A, i, S, D, k, m, hn, hi, hk, h8, h9, hq, hS, hD, hD2 => by
    simp only [List.length_cons] at hn hi
    obtain ⟨x1, x2, x3, x4⟩ := hq x (by simp)
    have hkl := hk.lt hR
    have hk0 : k ≠ 0 := fun e => by have := hk.nil_iff.mp e; cases this
    obtain ⟨j, e1, e2, e3, e4, e5⟩ := hk
    have m1 : ∃ m1 : hMem, m1 = hv_up (hv_up m (c + 6) a ((S : Int) + (n_holds (a_g A x) : Int))) (c + 7) a (max (D : Int) (n_deep (a_g A x) : Int)) := ⟨_, rfl⟩
    obtain ⟨m1, em1⟩ := m1
    have hother : ∀ k' j, ¬ (k' = c + 6 ∧ j = a) → ¬ (k' = c + 7 ∧ j = a) → m1 k' j = m k' j := by
      intro k' j h1 h2
      rw [em1]
      by_cases e : k' = c + 7
      · subst e
        rw [hp_up_j _ _ _ (by intro e; exact h2 ⟨rfl, e⟩), hp_up_k _ _ _ _ (by omega)]
      · rw [hp_up_k _ _ _ _ e]
        by_cases e' : k' = c + 6
        · subst e'
          rw [hp_up_j _ _ _ (by intro e; exact h1 ⟨rfl, e⟩)]
        · rw [hp_up_k _ _ _ _ e']
    have hE : Ex c 0 R m m1 := ⟨fun j _ => ⟨hother _ _ (by omega) (by omega), hother _ _ (by omega) (by omega)⟩, fun a' h => by omega⟩
    have hr1 : Rw c m1 R (m1 (c + 9) j) q := by
      rw [hother _ _ (by omega) (by omega)]
      exact Rw.ex hE (Nat.le_refl _) e5
    obtain ⟨m', g1, g2, g3, g4⟩ := heap_loop hR ha q n A (i + 1) (S + n_holds (a_g A x)) (max D (n_deep (a_g A x))) (m1 (c + 9) j) m1 (by omega) (by omega) hr1 (by rw [hother _ _ (by omega) (by omega)]; exact h8) (by rw [hother _ _ (by omega) (by omega)]; exact h9) (fun z hz => by
      obtain ⟨z1, z2, z3, z4⟩ := hq z (by simp [hz])
      rw [hother _ _ (by omega) (by omega), hother _ _ (by omega) (by omega)]
      exact ⟨z1, z2, z3, z4⟩) (by rw [em1, hp_up_k _ _ _ _ (by omega), hp_up_same]; omega) (by rw [em1, hp_up_same]; omega) (by omega)
    refine ⟨m', ?_, ?_, ?_, fun k' j h1 h2 => (g4 k' j h1 h2).trans (hother k' j h1 h2)⟩
    · show B_X1_heap_90 c (L_X1_heap_90 c n) (a : Int) k (i : Int) m = _
      have f1 : ∀ mm : hMem, mm (c + 8) j = (x : Int) → f_X1_firstOf c k mm = some ((x : Int), mm) := by
        intro mm hmm
        unfold f_X1_firstOf
        simp (disch := omega) only [hp_lt_f, hp_lt_t, hp_ald, hv_ret, e1, Int.toNat_natCast, hmm]
      have f2 : ∀ mm : hMem, f_X1_restOf c k mm = some (mm (c + 9) j, mm) := by
        intro mm
        unfold f_X1_restOf
        simp (disch := omega) only [hp_lt_f, hp_lt_t, hp_ald, hv_ret, e1, Int.toNat_natCast]
      have f3 : f_X1_holdsOf c (x : Int) m = some ((n_holds (a_g A x) : Int), m) := by
        unfold f_X1_holdsOf
        simp (disch := omega) only [hp_lt_f, hp_lt_t, hp_ald, hv_ret, Int.toNat_natCast, x2]
      have f4 : f_X1_deepOf c (x : Int) (hv_up m (c + 6) a ((S : Int) + (n_holds (a_g A x) : Int))) = some ((n_deep (a_g A x) : Int), (hv_up m (c + 6) a ((S : Int) + (n_holds (a_g A x) : Int)))) := by
        unfold f_X1_deepOf
        simp (disch := omega) only [hp_lt_f, hp_lt_t, hp_ald, hv_ret, Int.toNat_natCast, hp_up_k, x3]
      unfold B_X1_heap_90
      rw [hp_eq_f (by omega) (by omega) (by omega), hp_lt_t (by omega) (by omega) (by omega), hp_ald (by omega) (by omega)]
      simp only [Int.toNat_natCast]
      rw [f1 m e4, hp_b, f3, hp_b, hp_ast (by omega) (by omega), hS]
      simp only [Int.toNat_natCast]
      rw [hp_ald (by omega) (by omega)]
      simp only [Int.toNat_natCast]
      rw [f1 _ (by rw [hp_up_k _ _ _ _ (by omega)]; exact e4), hp_b, f4, hp_b, hp_up_k _ _ _ _ (by omega), hD, fe_max (by omega) (by omega), hp_b, hp_ast (by omega) (by omega)]
      simp only [Int.toNat_natCast]
      rw [← em1, f2, hp_b]
      show L_X1_heap_90 c n (a : Int) (m1 (c + 9) j) ((i : Int) + 1) m1 = _
      exact g1
    · rw [g2]
      show _ = ((S + (n_holds (a_g A x) + su A n_holds q) : Nat) : Int)
      omega
    · rw [g3]
      show _ = ((max D (max (n_deep (a_g A x)) (mx A n_deep q)) + 1 : Nat) : Int)
      omega
  | [], 0, _, _, _, _, _, _, hn, _, _, _, _, _, _, _, _ => by simp at hn
  | x :: q, 0, _, _, _, _, _, _, hn, _, _, _, _, _, _, _, _ => by simp at hn
