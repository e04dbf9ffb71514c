/-! take: the least goes out, the rest stays; how much is made -/
theorem least_mem {A : hA} : ∀ (q : List Nat) (t : Nat), s_least A t q ∈ t :: q
  | [], t => by simp [s_least]
  | x :: q, t => by
    unfold s_least
    have h := least_mem (A := A) q (if tn A x < tn A t then x else t)
    rcases List.mem_cons.mp h with h | h
    · split at h
      · rw [if_pos ‹_›, h]; simp
      · rw [if_neg ‹_›, h]; simp
    · simp [h]
theorem least_le {A : hA} : ∀ (q : List Nat) (t : Nat), ∀ x ∈ t :: q, tn A (s_least A t q) ≤ tn A x
  | [], t, x, hx => by simp at hx; subst hx; exact Nat.le_refl _
  | y :: q, t, x, hx => by
    unfold s_least
    have h0 := least_le (A := A) q (if tn A y < tn A t then y else t)
    have hc := h0 _ List.mem_cons_self
    rcases List.mem_cons.mp hx with rfl | hx
    · split at hc
      · rw [if_pos ‹_›]; omega
      · rw [if_neg ‹_›]; omega
    · rcases List.mem_cons.mp hx with rfl | hx
      · split at hc
        · rw [if_pos ‹_›]; omega
        · rw [if_neg ‹_›]; omega
      · exact h0 x (by simp [hx])
theorem but_sub (t : Nat) : ∀ (q : List Nat), (s_but t q).Sublist q
  | [] => List.Sublist.refl _
  | x :: q => by
    unfold s_but
    split
    · exact List.sublist_cons_self _ _
    · exact (but_sub t q).cons_cons x
theorem but_perm {A : hA} {t : Nat} : ∀ {q : List Nat}, t ∈ q → (fm A n_jobs q).Perm (jb A t ++ fm A n_jobs (s_but t q))
  | [], h => by simp at h
  | x :: q, h => by
    unfold s_but
    split
    · rename_i e
      subst e
      exact List.Perm.refl _
    · rename_i e
      have ht : t ∈ q := by
        rcases List.mem_cons.mp h with rfl | h
        · exact absurd rfl e
        · exact h
      show (jb A x ++ fm A n_jobs q).Perm (jb A t ++ (jb A x ++ fm A n_jobs (s_but t q)))
      refine (List.Perm.append_left _ (but_perm ht)).trans ?_
      rw [← List.append_assoc, ← List.append_assoc]
      exact List.Perm.append_right _ List.perm_append_comm
theorem but_len {t : Nat} : ∀ {q : List Nat}, t ∈ q → (s_but t q).length + 1 = q.length
  | [], h => by simp at h
  | x :: q, h => by
    unfold s_but
    split
    · rfl
    · rename_i e
      have ht : t ∈ q := by
        rcases List.mem_cons.mp h with rfl | h
        · exact absurd rfl e
        · exact h
      simp only [List.length_cons]
      rw [but_len ht]
theorem but_weak {A : hA} {t : Nat} {q : List Nat} (h1 : Sx A q.tail) (h2 : ∀ x y l, q = x :: y :: l → rk A x ≤ rk A y) : Sx A (s_but t q).tail ∧ ∀ x y l, s_but t q = x :: y :: l → rk A x ≤ rk A y := by
  cases q with
  | nil => exact ⟨List.Pairwise.nil, fun x y l e => by cases e⟩
  | cons a q =>
    have h1 : Sx A q := h1
    unfold s_but
    split
    · refine ⟨h1.tail, fun x y l e => ?_⟩
      subst e
      exact Nat.le_of_lt ((List.pairwise_cons.mp h1).1 y (by simp))
    · refine ⟨List.Pairwise.sublist (but_sub t q) h1, fun x y l e => ?_⟩
      rw [List.cons.injEq] at e
      have hy : y ∈ q := (but_sub t q).subset (by rw [e.2]; simp)
      rw [← e.1]
      cases q with
      | nil => simp at hy
      | cons b q =>
        have := h2 a b q rfl
        rcases List.mem_cons.mp hy with rfl | hy
        · exact this
        · have := (List.pairwise_cons.mp h1).1 y hy
          omega
theorem sx_size {law : Nat} {A : hA} (h : Wf law A) : ∀ {q : List Nat} (lo : Nat), Tl A q → Sx A q → (∀ x ∈ q, lo ≤ rk A x) → 2 ^ (lo + q.length) ≤ (fm A n_jobs q).length + 2 ^ lo
  | [], lo, _, _, _ => by simp
  | x :: q, lo, hq, hs, hr => by
    obtain ⟨hx, hq'⟩ := tl_cons.mp hq
    have hs' := List.pairwise_cons.mp hs
    have ih := sx_size h (lo + 1) hq' hs'.2 (fun y hy => by have := hs'.1 y hy; have := hr x (by simp); omega)
    obtain ⟨r, y, sg, bl, e, ⟨y1, y2, y3⟩, -, -, -, -, hsz⟩ := wf_tree h hx
    obtain ⟨x1, x2, x3⟩ := hx x (by simp)
    have hy1 : 1 ≤ n_holds (a_g A y) := by
      have g := (h.2.2 y y1 (by omega)).2.2
      rw [g.1]
      exact List.length_pos_of_mem g.2.2.1
    have hjx : n_holds (a_g A x) = (jb A x).length := (h.2.2 x x1 x2).2.2.1
    have er : rk A x = r := by rw [rk, e]; rfl
    have h3 : 2 ^ lo ≤ 2 ^ r := Nat.pow_le_pow_right (by omega) (by rw [← er]; exact hr x (by simp))
    show 2 ^ (lo + (q.length + 1)) ≤ (jb A x ++ fm A n_jobs q).length + 2 ^ lo
    rw [List.length_append, show lo + (q.length + 1) = lo + 1 + q.length by omega]
    have h4 : (2 : Nat) ^ (lo + 1) = 2 ^ lo + 2 ^ lo := by rw [Nat.pow_succ]; omega
    omega
theorem fm_len {law : Nat} {A : hA} (h : Wf law A) : ∀ {q : List Nat}, Al A.length q → q.length ≤ (fm A n_jobs q).length
  | [], _ => Nat.le_refl _
  | x :: q, hq => by
    have h1 := fm_len h (q := q) (fun y hy => hq y (by simp [hy]))
    obtain ⟨x1, x2⟩ := hq x (by simp)
    have h2 : 1 ≤ (jb A x).length := List.length_pos_of_mem (h.2.2 x x1 x2).2.2.2.2.1
    show q.length + 1 ≤ (jb A x ++ fm A n_jobs q).length
    rw [List.length_append]
    omega
/-- how few jobs a queue of n trees can have -/
def szq (n : Nat) : Nat := if n = 0 then 0 else 2 ^ (n - 1)
theorem wk_size {law : Nat} {A : hA} (h : Wf law A) {q : List Nat} (hq : Tl A q) (hs : Sx A q.tail) : szq q.length ≤ (fm A n_jobs q).length := by
  cases q with
  | nil => exact Nat.zero_le _
  | cons x q =>
    obtain ⟨hx, hq'⟩ := tl_cons.mp hq
    have h1 := sx_size h 0 hq' hs (fun _ _ => Nat.zero_le _)
    obtain ⟨x1, x2, x3⟩ := hx x (by simp)
    have h2 : 1 ≤ (jb A x).length := List.length_pos_of_mem (h.2.2 x x1 x2).2.2.2.2.1
    show szq (q.length + 1) ≤ (jb A x ++ fm A n_jobs q).length
    rw [List.length_append, szq, if_neg (by omega)]
    simp only [Nat.zero_add, Nat.pow_zero, Nat.add_sub_cancel] at h1 ⊢
    omega
theorem szq_lt {n : Nat} (h : szq n ≤ 23) : n < 6 := by
  rcases Nat.lt_or_ge n 6 with c | c
  · exact c
  · have h1 : 2 ^ 5 ≤ 2 ^ (n - 1) := Nat.pow_le_pow_right (by omega) (by omega)
    rw [szq, if_neg (by omega)] at h
    omega
theorem pow_lt5 {r : Nat} (h : 2 ^ r ≤ 23) : r < 5 := by
  rcases Nat.lt_or_ge r 5 with c | c
  · exact c
  · have h1 : 2 ^ 5 ≤ 2 ^ r := Nat.pow_le_pow_right (by omega) c
    omega
theorem take_numB : ((List.range 5).all fun r => (List.range 5).all fun s => (List.range 6).all fun h => (List.range 6).all fun k => (! decide (s ≤ r ∧ 2 ^ r + s + szq h + szq k ≤ 23)) || (decide (r + k + 2 * s + h ≤ 16) && (List.range 6).all fun t => (! decide (szq t + szq h ≤ 22)) || (decide (3 * (r + k) + 3 * s + 2 * h + 2 * t ≤ 46) && (List.range 6).all fun g => (! decide (szq g + szq h + s ≤ 22)) || decide (3 * (r + k) + 2 * s + g + 2 * h + t ≤ 46)))) = true := by decide +kernel
theorem take_num (r : Nat) (hr : r < 5) (s : Nat) (hs : s < 5) (h : Nat) (hh : h < 6) (k : Nat) (hk : k < 6) (h1 : s ≤ r) (h2 : 2 ^ r + s + szq h + szq k ≤ 23) : r + k + 2 * s + h ≤ 16 ∧ ∀ t, t < 6 → szq t + szq h ≤ 22 → 3 * (r + k) + 3 * s + 2 * h + 2 * t ≤ 46 ∧ ∀ g, g < 6 → szq g + szq h + s ≤ 22 → 3 * (r + k) + 2 * s + g + 2 * h + t ≤ 46 := by
  have g := List.all_eq_true.mp take_numB r (List.mem_range.mpr hr)
  have g := List.all_eq_true.mp g s (List.mem_range.mpr hs)
  have g := List.all_eq_true.mp g h (List.mem_range.mpr hh)
  have g := List.all_eq_true.mp g k (List.mem_range.mpr hk)
  simp only [h1, h2, and_self, decide_true, Bool.not_true, Bool.false_or, Bool.and_eq_true, decide_eq_true_eq] at g
  refine ⟨g.1, fun t ht h3 => ?_⟩
  have g2 := List.all_eq_true.mp g.2 t (List.mem_range.mpr ht)
  simp only [h3, decide_true, Bool.not_true, Bool.false_or, Bool.and_eq_true, decide_eq_true_eq] at g2
  refine ⟨g2.1, fun g' hg' h4 => ?_⟩
  have g3 := List.all_eq_true.mp g2.2 g' (List.mem_range.mpr hg')
  simp only [h4, decide_true, Bool.not_true, Bool.false_or, decide_eq_true_eq] at g3
  exact g3
/-- the pieces of a take -/
def Tk (law : Nat) (A : hA) (o : Nat) (q : List Nat) : Prop :=
  ∃ y sg bl qy, n_head (a_g A o) = y ∧ n_sg (a_g A o) = sg ∧ n_bl (a_g A o) = bl ∧ n_bl (a_g A y) = qy ∧ tn A o = tn A y ∧ tn A o < 30000 ∧ Tl A [o] ∧ Hl A [y] ∧ Hl A sg ∧ Tl A bl ∧ Tl A qy ∧ Tl A (s_but o q) ∧ Sx A bl.reverse ∧ Qk law A qy ∧ Sx A (s_but o q).tail ∧ (∀ x y l, s_but o q = x :: y :: l → rk A x ≤ rk A y) ∧
  (tn A o :: (fm A n_jobs qy ++ (fm A n_jobs sg ++ (fm A n_jobs bl.reverse ++ fm A n_jobs (s_but o q))))).Perm (fm A n_jobs q) ∧ sg.length ≤ bl.length ∧ 2 ^ bl.length + sg.length + szq qy.length + szq (s_but o q).length ≤ 23 ∧ (s_but o q).length + 1 = q.length ∧ (∀ j ∈ fm A n_jobs q, tn A o ≤ j)
theorem fm_rev (A : hA) (f : hN → List Nat) : ∀ (q : List Nat), (fm A f q.reverse).Perm (fm A f q)
  | [] => List.Perm.refl _
  | x :: q => by
    rw [List.reverse_cons, fm_app]
    show (fm A f q.reverse ++ (f (a_g A x) ++ [])).Perm (f (a_g A x) ++ fm A f q)
    rw [List.append_nil]
    exact List.perm_append_comm.trans (List.Perm.append_left _ (fm_rev A f q))
theorem take_pieces {law : Nat} {A : hA} (h : Wf law A) {x : Nat} {q : List Nat} (hq : Tl A (x :: q)) (hk : Qk law A (x :: q)) (hl : (fm A n_jobs (x :: q)).length ≤ 23) : Tk law A (s_least A x q) (x :: q) := by
  generalize ho : s_least A x q = o
  have hm : o ∈ x :: q := by rw [← ho]; exact least_mem q x
  have hle : ∀ z ∈ x :: q, tn A o ≤ tn A z := by rw [← ho]; exact least_le q x
  have hO : Tl A [o] := fun z hz => by simp at hz; subst hz; exact hq z hm
  obtain ⟨o1, o2, o3⟩ := hq o hm
  obtain ⟨r, y, sg, bl, e, ⟨y1, y2, y3⟩, hsg, hbl, hdn, hsr, hsz⟩ := wf_tree h hO
  have hY : Hl A [y] := hl_one y1 (by omega) y3
  obtain ⟨t, qy, ey, hqy, hky, h3⟩ := wf_heap h hY
  have et : tn A o = tn A y := by rw [tn, e]; rfl
  have ety : tn A y = t := by rw [tn, ey]; rfl
  have ejy : jb A y = t :: fm A n_jobs qy := by rw [jb, ey]; rfl
  have ejo : jb A o = jb A y ++ (fm A n_jobs sg ++ fm A n_jobs bl) := by rw [jb, e]; rfl
  have hT : Tl A qy := fun z hz => by have g := hqy z hz; exact ⟨g.1, by omega, g.2.2.1⟩
  have hB : Tl A bl := fun z hz => by have g := hbl z hz; exact ⟨g.1, by omega, g.2.2.1⟩
  have hS : Hl A sg := fun z hz => by have g := hsg z hz; exact ⟨g.1, by omega, g.2.2.1⟩
  have hbut : Tl A (s_but o (x :: q)) := fun z hz => hq z ((but_sub o _).subset hz)
  have hw := but_weak (t := o) hk.2.1 hk.2.2
  have hbp := but_perm (A := A) hm
  have hlen := but_len hm
  have hr : bl.length = r := by
    have := congrArg List.length hdn
    simpa [dn] using this
  have hrev : Sx A bl.reverse := by
    unfold Sx
    rw [List.pairwise_reverse]
    have h1 : (bl.map (rk A)).Pairwise (fun a b => b < a) := by
      rw [hdn, dn, List.pairwise_reverse]
      exact List.pairwise_lt_range
    exact List.pairwise_map.mp h1
  have hjo : n_holds (a_g A o) = (jb A o).length := (h.2.2 o o1 o2).2.2.1
  have hjy : n_holds (a_g A y) = (jb A y).length := (h.2.2 y y1 (by omega)).2.2.1
  have ejyl := congrArg List.length ejy
  rw [List.length_cons] at ejyl
  have z1 := wk_size h hT hky.2.1
  have z2 := wk_size h hbut hw.1
  have bl1 := hbp.length_eq
  rw [List.length_append] at bl1
  refine ⟨y, sg, bl, qy, by rw [e]; rfl, by rw [e]; rfl, by rw [e]; rfl, by rw [ey]; rfl, et, by omega, hO, hY, hS, hB, hT, hbut, hrev, hky, hw.1, hw.2, ?_, by omega, by rw [hr]; omega, hlen, fun j hj => (jobs_ge h hq.al hle j hj).1⟩
  refine List.Perm.trans ?_ hbp.symm
  rw [ejo, ejy, et, ety]
  show (t :: _).Perm ((t :: (fm A n_jobs qy ++ (fm A n_jobs sg ++ fm A n_jobs bl))) ++ fm A n_jobs (s_but o (x :: q)))
  rw [List.cons_append]
  refine List.Perm.cons _ ?_
  rw [List.append_assoc, List.append_assoc]
  refine List.Perm.append_left _ (List.Perm.append_left _ (List.Perm.append_right _ (fm_rev A n_jobs bl)))
/-- the numbers of a take: cells, and the lengths by which its rows are counted -/
def Tn (A : hA) (o : Nat) (q : List Nat) (g1 g2 g3 : hA × List Nat × Nat) : Prop :=
  ∃ r s h k t : Nat, (n_bl (a_g A o)).length = r ∧ (n_sg (a_g A o)).length = s ∧ (n_bl (a_g A (n_head (a_g A o)))).length = h ∧ (s_but o q).length = k ∧ g2.2.1.length = t ∧ s ≤ r ∧ r < 5 ∧ h < 6 ∧ k < 6 ∧ t < 6 ∧ 3 * (r + k) + 3 * s + 2 * h + 2 * t ≤ 46 ∧ 3 * (r + k) + 2 * s + g1.2.1.length + 2 * h + t ≤ 46 ∧ g1.2.1.length < 6 ∧ g1.2.1.length + g1.2.2 = r + k ∧ g2.2.1.length + g2.2.2 ≤ g1.2.1.length + s ∧ g3.2.1.length + g3.2.2 = h + t ∧ g3.1.length + 1 ≤ A.length + 16
theorem take_ok {law : Nat} {A : hA} (h : Wf law A) (hlaw : law = 0 ∨ law = 1) {x : Nat} {q : List Nat} (hq : Tl A (x :: q)) (hk : Qk law A (x :: q)) (hl : (fm A n_jobs (x :: q)).length ≤ 23) :
    let o := s_least A x q
    let g1 := s_merge A (n_bl (a_g A o)).reverse (s_but o (x :: q))
    let g2 := s_puts law g1.1 (n_sg (a_g A o)) g1.2.1
    let g3 := s_merge g2.1 (n_bl (a_g A (n_head (a_g A o)))) g2.2.1
    Qr law A (fm A n_jobs (n_bl (a_g A o)).reverse ++ fm A n_jobs (s_but o (x :: q))) 0 0 ((n_bl (a_g A o)).reverse.length + (s_but o (x :: q)).length) g1 ∧ Wf law g2.1 ∧ Px g1.1 g2.1 ∧ Tl g2.1 g2.2.1 ∧ Qk law g2.1 g2.2.1 ∧ Wf law g3.1 ∧ Px g2.1 g3.1 ∧ Tl g3.1 g3.2.1 ∧ Sx g3.1 g3.2.1 ∧ Tn A o (x :: q) g1 g2 g3 ∧
      Hr law A (fm A n_jobs (x :: q)) (g3.1 ++ [mkH g3.1 g3.1.length (tn A o) g3.2.1], g3.1.length, g1.2.2 + g2.2.2 + g3.2.2) := by
  intro o g1 g2 g3
  have tp : Tk law A o (x :: q) := take_pieces h hq hk hl
  obtain ⟨y, sg, bl, qy, ey, es, eb, eq, et, h3, hO, hY, hS, hB, hT, hbut, hrev, hky, hw1, hw2, hp, hsr, hnum, hlen, hge⟩ := tp
  have pl := hp.length_eq
  rw [List.length_cons] at pl
  simp only [List.length_append] at pl
  have hB' : Tl A bl.reverse := fun z hz => hB z (List.mem_reverse.mp hz)
  have k1 : Qr law A (fm A n_jobs bl.reverse ++ fm A n_jobs (s_but o (x :: q))) 0 0 (bl.reverse.length + (s_but o (x :: q)).length) (s_merge A bl.reverse (s_but o (x :: q))) := merge_ok h hB' hbut hrev.tail (fun a b l e => by
    rw [e] at hrev
    exact Nat.le_of_lt ((List.pairwise_cons.mp hrev).1 b (by simp))) hw1 hw2 (by rw [List.length_append]; omega)
  have e1 : s_merge A bl.reverse (s_but o (x :: q)) = g1 := by show _ = s_merge A (n_bl (a_g A o)).reverse (s_but o (x :: q)); rw [eb]
  rw [e1] at k1
  have k1' := k1
  obtain ⟨a1, a2, a3, a4, a5, a6, a7, a8, -⟩ := k1'
  have l1 := a6.length_eq
  rw [List.length_append] at l1
  have f1 := fm_px a2 n_jobs hS.al
  have e2 : s_puts law g1.1 sg g1.2.1 = g2 := by show _ = s_puts law g1.1 (n_sg (a_g A o)) g1.2.1; rw [es]
  obtain ⟨b1, b2, b3, b4, b5, b6, b7⟩ := puts_ok hlaw sg a1 (hS.px a2) a3 (Qk.of_sx a4) (by rw [f1, List.length_append]; omega)
  rw [e2] at b1 b2 b3 b4 b5 b6 b7
  rw [f1] at b5
  have l2 := b5.length_eq
  rw [List.length_append] at l2
  have p12 := a2.trans b2
  have f2 := fm_px p12 n_jobs hT.al
  have hky2 := qk_px p12 hT.al hky
  have e3 : s_merge g2.1 qy g2.2.1 = g3 := by show _ = s_merge g2.1 (n_bl (a_g A (n_head (a_g A o)))) g2.2.1; rw [ey, eq]
  obtain ⟨c1, c2, c3, c4, c5, c6, c7, c8, -⟩ := merge_ok b1 (hT.px p12) b3 hky2.2.1 hky2.2.2 b4.2.1 b4.2.2 (by rw [f2, List.length_append]; omega)
  rw [e3] at c1 c2 c3 c4 c5 c6 c7 c8
  rw [f2] at c6
  have l3 := c6.length_eq
  rw [List.length_append] at l3
  have hJ : (tn A o :: fm g3.1 n_jobs g3.2.1).Perm (fm A n_jobs (x :: q)) := by
    refine List.Perm.trans (List.Perm.cons _ (c6.trans (List.Perm.append_left _ (b5.trans (List.Perm.append_left _ a6))))) hp
  obtain ⟨d1, d2, d3, d4⟩ := heap_new c1 c3 (Qk.of_sx c4) (t := tn A o) (fun j hj => hge j (hJ.mem_iff.mp (List.mem_cons_of_mem _ hj))) h3 (by omega)
  have z1 := wk_size b1 b3 b4.2.1
  have z2 := wk_size h hT hky.2.1
  have z3 := wk_size h hbut hw1
  have r5 : bl.length < 5 := pow_lt5 (by omega)
  have h6 : qy.length < 6 := szq_lt (by omega)
  have k6 : (s_but o (x :: q)).length < 6 := szq_lt (by omega)
  have t6 : g2.2.1.length < 6 := szq_lt (by omega)
  obtain ⟨n1, n2⟩ := take_num bl.length r5 sg.length (by omega) qy.length h6 (s_but o (x :: q)).length k6 hsr hnum
  obtain ⟨n3, n4⟩ := n2 g2.2.1.length t6 (by omega)
  have z4 := wk_size a1 a3 a4.tail
  have z5 := fm_len h hS.al
  have g6 : g1.2.1.length < 6 := szq_lt (by omega)
  have n5 := n4 g1.2.1.length g6 (by omega)
  have hrl : bl.reverse.length = bl.length := List.length_reverse
  refine ⟨by rw [eb]; exact k1, b1, b2, b3, b4, c1, c2, c3, c4, ⟨bl.length, sg.length, qy.length, (s_but o (x :: q)).length, g2.2.1.length, by rw [eb], by rw [es], by rw [ey, eq], rfl, rfl, hsr, r5, h6, k6, t6, n3, n5, g6, by omega, b7, c8, ?_⟩, d1, p12.trans (c2.trans (Px.snoc _ _)), d2, ?_⟩
  · have g3l : g3.1.length = A.length + g1.2.2 + sg.length + g2.2.2 + g3.2.2 := by omega
    rcases Nat.eq_zero_or_pos g3.2.1.length with z | z
    · have : g3.2.1 = [] := List.length_eq_zero_iff.mp z
      have e0 : (fm g3.1 n_jobs g3.2.1).length = 0 := by rw [this]; rfl
      have t0 : g2.2.1.length = 0 := by
        rcases Nat.eq_zero_or_pos g2.2.1.length with t0 | t0
        · exact t0
        · have : 1 ≤ szq g2.2.1.length := by rw [szq, if_neg (by omega)]; exact Nat.one_le_two_pow
          omega
      have h0 : qy.length = 0 := by
        rcases Nat.eq_zero_or_pos qy.length with t0 | t0
        · exact t0
        · have : 1 ≤ szq qy.length := by rw [szq, if_neg (by omega)]; exact Nat.one_le_two_pow
          omega
      have k0 : (s_but o (x :: q)).length = 0 := by
        rcases Nat.eq_zero_or_pos (s_but o (x :: q)).length with t0 | t0
        · exact t0
        · have : 1 ≤ szq (s_but o (x :: q)).length := by rw [szq, if_neg (by omega)]; exact Nat.one_le_two_pow
          omega
      omega
    · omega
  · show (jb _ g3.1.length).Perm _
    rw [d3]
    exact hJ
