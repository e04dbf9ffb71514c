/-! the class's cells and rows, as a list of nodes -/
abbrev hN : Type := (Nat × Nat × Nat × List Nat × List Nat) × (Nat × Nat × List Nat × List Nat × Nat)
def n_rank (x : hN) : Nat := x.1.1
def n_turn (x : hN) : Nat := x.1.2.1
def n_head (x : hN) : Nat := x.1.2.2.1
def n_sg (x : hN) : List Nat := x.1.2.2.2.1
def n_bl (x : hN) : List Nat := x.1.2.2.2.2
def n_holds (x : hN) : Nat := x.2.1
def n_deep (x : hN) : Nat := x.2.2.1
def n_jobs (x : hN) : List Nat := x.2.2.2.1
def n_reach (x : hN) : List Nat := x.2.2.2.2.1
def n_ht (x : hN) : Nat := x.2.2.2.2.2
def n_0 : hN := ((0, 0, 0, [], []), (0, 0, [], [], 0))
abbrev hA : Type := List hN
def a_g (A : hA) (a : Nat) : hN := A.getD a n_0
/-- a row of the class: the list that it is -/
def Rw (c : Nat) (m : hMem) (R : Nat) : Int → List Nat → Prop
  | k, [] => k = 0
  | k, x :: l => ∃ j : Nat, k = (j : Int) ∧ 0 < j ∧ j < R ∧ m (c + 8) j = (x : Int) ∧ Rw c m R (m (c + 9) j) l
/-- what lies below two counts is the same -/
def Ex (c n R : Nat) (m m' : hMem) : Prop := (∀ j, j < R → m' (c + 8) j = m (c + 8) j ∧ m' (c + 9) j = m (c + 9) j) ∧ ∀ a, a < n → ∀ i, 1 ≤ i → i ≤ 7 → m' (c + i) a = m (c + i) a
def Fr (lo hi : Nat) (m m' : hMem) : Prop := ∀ k, k < lo ∨ hi ≤ k → m' k = m k
theorem Fr.refl (lo hi : Nat) (m : hMem) : Fr lo hi m m := fun _ _ => rfl
theorem Fr.trans {lo hi : Nat} {m1 m2 m3 : hMem} (h1 : Fr lo hi m1 m2) (h2 : Fr lo hi m2 m3) : Fr lo hi m1 m3 := fun k hk => (h2 k hk).trans (h1 k hk)
theorem Fr.mono {lo hi lo' hi' : Nat} {m1 m2 : hMem} (h : Fr lo hi m1 m2) (h1 : lo' ≤ lo) (h2 : hi ≤ hi') : Fr lo' hi' m1 m2 := fun k hk => h k (by omega)
theorem Fr.up {lo hi k j : Nat} {v : Int} {m m1 : hMem} (h : Fr lo hi m m1) (hk : lo ≤ k ∧ k < hi) : Fr lo hi m (hv_up m1 k j v) := fun q hq => by
  rw [hp_up_kk m1 j v (by omega)]; exact h q hq
theorem Ex.refl (c n R : Nat) (m : hMem) : Ex c n R m m := ⟨fun _ _ => ⟨rfl, rfl⟩, fun _ _ _ _ _ => rfl⟩
theorem Ex.trans {c n R n1 R1 : Nat} {m1 m2 m3 : hMem} (h1 : Ex c n R m1 m2) (h2 : Ex c n1 R1 m2 m3) (hn : n ≤ n1) (hR : R ≤ R1) : Ex c n R m1 m3 :=
  ⟨fun j hj => ⟨((h2.1 j (by omega)).1).trans (h1.1 j hj).1, ((h2.1 j (by omega)).2).trans (h1.1 j hj).2⟩, fun a ha i h3 h4 => (h2.2 a (by omega) i h3 h4).trans (h1.2 a ha i h3 h4)⟩
theorem Ex.mono {c n R n1 R1 : Nat} {m1 m2 : hMem} (h : Ex c n1 R1 m1 m2) (hn : n ≤ n1) (hR : R ≤ R1) : Ex c n R m1 m2 :=
  ⟨fun j hj => h.1 j (by omega), fun a ha => h.2 a (by omega)⟩
theorem Ex.of_Fr {c n R lo hi : Nat} {m m' : hMem} (h : Fr lo hi m m') (hc : c + 10 ≤ lo ∨ hi ≤ c) : Ex c n R m m' :=
  ⟨fun j _ => ⟨congrFun (h (c + 8) (by omega)) j, congrFun (h (c + 9) (by omega)) j⟩, fun a _ i h1 h2 => congrFun (h (c + i) (by omega)) a⟩
theorem Rw.ex {c n R R' : Nat} {m m' : hMem} (h : Ex c n R m m') (hR : R ≤ R') : ∀ {l : List Nat} {k : Int}, Rw c m R k l → Rw c m' R' k l
  | [], _, hk => hk
  | x :: l, k, ⟨j, h1, h2, h3, h4, h5⟩ => ⟨j, h1, h2, by omega, by rw [(h.1 j h3).1]; exact h4, by rw [(h.1 j h3).2]; exact Rw.ex h hR h5⟩
theorem Rw.lt {c R : Nat} {m : hMem} {l : List Nat} {k : Int} (h : Rw c m R k l) (hR : R ≤ 2592) : 0 ≤ k ∧ k < 2592 := by
  cases l with
  | nil => rw [show k = 0 from h]; omega
  | cons x l => obtain ⟨j, h1, h2, h3, -⟩ := h; omega
theorem Rw.nil_iff {c R : Nat} {m : hMem} {l : List Nat} {k : Int} (h : Rw c m R k l) : k = 0 ↔ l = [] := by
  cases l with
  | nil => exact ⟨fun _ => rfl, fun _ => h⟩
  | cons x l => obtain ⟨j, h1, h2, h3, -⟩ := h; exact ⟨fun h => by omega, fun h => by cases h⟩
def Nr (c : Nat) (m : hMem) (R a : Nat) (x : hN) : Prop := m (c + 1) a = (n_turn x : Int) ∧ m (c + 2) a = (n_rank x : Int) ∧ m (c + 3) a = (n_head x : Int) ∧ Rw c m R (m (c + 4) a) (n_sg x) ∧ Rw c m R (m (c + 5) a) (n_bl x) ∧ m (c + 6) a = (n_holds x : Int) ∧ m (c + 7) a = (n_deep x : Int)
theorem Nr.ex {c n R R' a : Nat} {m m' : hMem} {x : hN} (h : Ex c n R m m') (hR : R ≤ R') (ha : a < n) (hx : Nr c m R a x) : Nr c m' R' a x := by
  obtain ⟨h1, h2, h3, h4, h5, h6, h7⟩ := hx
  have e := fun i h1 h2 => h.2 a ha i h1 h2
  refine ⟨by rw [e 1 (by omega) (by omega)]; exact h1, by rw [e 2 (by omega) (by omega)]; exact h2, by rw [e 3 (by omega) (by omega)]; exact h3, ?_, ?_, by rw [e 6 (by omega) (by omega)]; exact h6, by rw [e 7 (by omega) (by omega)]; exact h7⟩
  · rw [e 4 (by omega) (by omega)]; exact Rw.ex h hR h4
  · rw [e 5 (by omega) (by omega)]; exact Rw.ex h hR h5
/-- the cells of the class are these nodes -/
def Ce (c : Nat) (A : hA) (R : Nat) (m : hMem) : Prop := m c 9 = (A.length : Int) ∧ m c 10 = (R : Int) ∧ 1 ≤ A.length ∧ 1 ≤ R ∧ A.length ≤ 864 ∧ R ≤ 2592 ∧ m (c + 8) 0 = 0 ∧ m (c + 9) 0 = 0 ∧ a_g A 0 = n_0 ∧ ∀ a, a < A.length → Nr c m R a (a_g A a)
theorem a_g_app {A : hA} {x : hN} {a : Nat} (h : a < A.length) : a_g (A ++ [x]) a = a_g A a := by
  simp [a_g, List.getD_eq_getElem?_getD, List.getElem?_append_left h]
theorem a_g_new {A : hA} {x : hN} : a_g (A ++ [x]) A.length = x := by
  simp [a_g, List.getD_eq_getElem?_getD]
theorem ce_row {c : Nat} {A : hA} {R x : Nat} {l : List Nat} {k : Int} {m : hMem} (h : Ce c A R m) (hR : R < 2592) (hk : Rw c m R k l) :
    ∃ m', f_X1_row c (x : Int) k m = some ((R : Int), m') ∧ Ce c A (R + 1) m' ∧ Rw c m' (R + 1) (R : Int) (x :: l) ∧ Ex c A.length R m m' ∧ Fr c (c + 10) m m' := by
  obtain ⟨h1, h2, h3, h4, h5, h6, h7, h8, h9, h10⟩ := h
  have hE : Ex c A.length R m (hv_up (hv_up (hv_up m (c + 8) R (x : Int)) (c + 9) R k) c 10 ((R : Int) + 1)) := by
    refine ⟨fun j hj => ⟨?_, ?_⟩, fun a ha i hi1 hi2 => ?_⟩
    · rw [hp_up_k _ _ _ _ (by omega), hp_up_k _ _ _ _ (by omega), hp_up_j _ _ _ (by omega)]
    · rw [hp_up_k _ _ _ _ (by omega), hp_up_j _ _ _ (by omega), hp_up_k _ _ _ _ (by omega)]
    · rw [hp_up_k _ _ _ _ (by omega), hp_up_k _ _ _ _ (by omega), hp_up_k _ _ _ _ (by omega)]
  refine ⟨hv_up (hv_up (hv_up m (c + 8) R (x : Int)) (c + 9) R k) c 10 ((R : Int) + 1), ?_, ?_, ?_, hE, ?_⟩
  · unfold f_X1_row
    simp (disch := omega) only [h2, hp_lt_f, hp_lt_t, hp_ast, hv_put, hp_up_same, hp_up_k, hp_up_j, Int.toNat_natCast, hv_ret]
    rw [show (R : Int) + 1 - 1 = (R : Int) by omega]
  · refine ⟨?_, ?_, h3, by omega, h5, by omega, ?_, ?_, h9, fun a ha => Nr.ex hE (by omega) ha (h10 a ha)⟩
    · rw [hp_up_j _ _ _ (by omega), hp_up_k _ _ _ _ (by omega), hp_up_k _ _ _ _ (by omega)]; exact h1
    · rw [hp_up_same]; omega
    · rw [(hE.1 0 (by omega)).1]; exact h7
    · rw [(hE.1 0 (by omega)).2]; exact h8
  · refine ⟨R, rfl, by omega, by omega, ?_, ?_⟩
    · rw [hp_up_k _ _ _ _ (by omega), hp_up_k _ _ _ _ (by omega), hp_up_same]
    · rw [hp_up_k _ _ _ _ (by omega), hp_up_same]
      exact Rw.ex hE (by omega) hk
  · exact (((Fr.refl _ _ _).up (by omega)).up (by omega)).up (by omega)
