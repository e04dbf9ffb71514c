/-! versions: the heaps of a law hold the bags -/
def Tb (A : hA) (t : Nat) (l : List Nat) : Prop := (t = 0 ∧ l = []) ∨ (Hl A [t] ∧ (jb A t).Perm l)
theorem Tb.px {A A' : hA} {t : Nat} {l : List Nat} (h : Tb A t l) (p : Px A A') : Tb A' t l := by
  rcases h with h | ⟨h1, h2⟩
  · exact Or.inl h
  · exact Or.inr ⟨h1.px p, by rw [jb_px p (h1 t (by simp)).2.1]; exact h2⟩
theorem Tb.or {A : hA} {t : Nat} {l : List Nat} (h : Tb A t l) : Hl A [t] ∨ t = 0 := by
  rcases h with h | ⟨h1, h2⟩
  · exact Or.inr h.1
  · exact Or.inl h1
theorem jb_0 {law : Nat} {A : hA} (h : Wf law A) : jb A 0 = [] := by rw [jb, h.2.1]; rfl
theorem Tb.len {law : Nat} {A : hA} (hw : Wf law A) {t : Nat} {l : List Nat} (h : Tb A t l) : (jb A t).length = l.length := by
  rcases h with ⟨h1, h2⟩ | ⟨h1, h2⟩
  · rw [h1, h2, jb_0 hw]
  · exact h2.length_eq
theorem Tb.perm {law : Nat} {A : hA} (hw : Wf law A) {t : Nat} {l : List Nat} (h : Tb A t l) : (jb A t).Perm l := by
  rcases h with ⟨h1, h2⟩ | ⟨h1, h2⟩
  · rw [h1, h2, jb_0 hw]
  · exact h2
theorem Tb.zero {law : Nat} {A : hA} (hw : Wf law A) {t : Nat} {l : List Nat} (h : Tb A t l) : t = 0 ↔ l = [] := by
  rcases h with ⟨h1, h2⟩ | ⟨h1, h2⟩
  · exact ⟨fun _ => h2, fun _ => h1⟩
  · obtain ⟨g1, g2, g3⟩ := h1 t (by simp)
    constructor
    · intro e; omega
    · intro e
      rw [e] at h2
      have := (hw.2.2 t g1 g2).2.2.2.2.1
      have h2 : (n_jobs (a_g A t)).Perm [] := h2
      rw [h2.eq_nil] at this
      simp at this
theorem join_tb {law : Nat} {A : hA} (hw : Wf law A) (hlaw : law = 0 ∨ law = 1) {x y : Nat} {a b : List Nat} (hx : Tb A x a) (hy : Tb A y b) (hl : a.length + b.length ≤ 24) :
    Wf law (s_join law A x y).1 ∧ Px A (s_join law A x y).1 ∧ Tb (s_join law A x y).1 (s_join law A x y).2.1 (a ++ b) ∧ (s_join law A x y).1.length ≤ A.length + 9 ∧ (s_join law A x y).2.2 ≤ 9 := by
  by_cases x0 : x = 0
  · have e : s_join law A x y = (A, y, 0) := by unfold s_join; rw [if_pos x0]
    have ea := (hx.zero hw).mp x0
    rw [e, ea]
    exact ⟨hw, Px.refl _, hy, by show A.length ≤ _; omega, Nat.zero_le _⟩
  by_cases y0 : y = 0
  · have e : s_join law A x y = (A, x, 0) := by unfold s_join; rw [if_neg x0, if_pos y0]
    have eb := (hy.zero hw).mp y0
    rw [e, eb, List.append_nil]
    exact ⟨hw, Px.refl _, hx, by show A.length ≤ _; omega, Nat.zero_le _⟩
  have hX : Hl A [x] := hx.or.resolve_right x0
  have hY : Hl A [y] := hy.or.resolve_right y0
  have lx := hx.len hw
  have ly := hy.len hw
  obtain ⟨j1, j2, j3, j4⟩ := join_ok hw hlaw hX hY (by omega)
  have key : ∀ u d, Hl A [u] → Hl A [d] → (jb A u).length + (jb A d).length ≤ 24 → (s_put law A d (n_bl (a_g A u))).1.length + 1 ≤ A.length + 9 ∧ (s_put law A d (n_bl (a_g A u))).2.2 ≤ 9 := by
    intro u d hu hd hud
    obtain ⟨hq, hkk, hl23, e, -, -⟩ := heap_q hw hu
    have ju : jb A u = tn A u :: fm A n_jobs (n_bl (a_g A u)) := by rw [jb]; exact (congrArg n_jobs e).trans rfl
    have jul : (jb A u).length = (fm A n_jobs (n_bl (a_g A u))).length + 1 := by rw [ju, List.length_cons]
    have zs := szq_lt (Nat.le_trans (wk_size hw hq hkk.2.1) hl23)
    obtain ⟨p1, p2, p3, p4, p5, p6, p7⟩ := put_ok hw hd hq hkk (by rw [List.length_append]; omega) hlaw
    constructor <;> omega
  refine ⟨j1, j2, Or.inr ⟨j3, j4.trans (List.Perm.append (hx.perm hw) (hy.perm hw))⟩, ?_⟩
  unfold s_join
  rw [if_neg x0, if_neg y0]
  by_cases c : tn A y < tn A x
  · simp only [if_pos c]
    obtain ⟨k1, k2⟩ := key y x hY hX (by omega)
    exact ⟨by rw [List.length_append]; exact k1, k2⟩
  · simp only [if_neg c]
    obtain ⟨k1, k2⟩ := key x y hX hY (by omega)
    exact ⟨by rw [List.length_append]; exact k1, k2⟩
theorem jb_heap {law : Nat} {A : hA} (hw : Wf law A) {h : Nat} (hh : Hl A [h]) : jb A h = tn A h :: fm A n_jobs (n_bl (a_g A h)) := by
  obtain ⟨-, -, -, e, -, -⟩ := heap_q hw hh
  rw [jb]; exact (congrArg n_jobs e).trans rfl
theorem so_head {t : Nat} {l p : List Nat} (hs : So l) (hp : (t :: p).Perm l) (ht : ∀ x ∈ p, t ≤ x) : l.head? = some t ∧ p.Perm l.tail := by
  cases l with
  | nil => have := hp.length_eq; simp at this
  | cons x l =>
    have h' := List.pairwise_cons.mp hs
    have hx : x = t := by
      have m1 : x ∈ t :: p := hp.mem_iff.mpr (by simp)
      have m2 : t ∈ x :: l := hp.mem_iff.mp (by simp)
      have a1 : t ≤ x := by
        rcases List.mem_cons.mp m1 with e | e
        · omega
        · exact ht x e
      have a2 : x ≤ t := by
        rcases List.mem_cons.mp m2 with e | e
        · omega
        · exact h'.1 t e
      omega
    subst hx
    exact ⟨rfl, List.Perm.cons_inv hp⟩
theorem heap_head {law : Nat} {A : hA} (hw : Wf law A) {h : Nat} (hh : Hl A [h]) {l : List Nat} (hp : (jb A h).Perm l) (hs : So l) : l.head? = some (tn A h) ∧ (fm A n_jobs (n_bl (a_g A h))).Perm l.tail := by
  rw [jb_heap hw hh] at hp
  obtain ⟨hq, -, -, -, ht, -⟩ := heap_q hw hh
  exact so_head hs hp (fun x hx => (jobs_ge hw hq.al ht x hx).1)
theorem take_tb {law : Nat} {A : hA} (hw : Wf law A) (hlaw : law = 0 ∨ law = 1) {h : Nat} {l : List Nat} (hh : Tb A h l) (hs : So l) :
    Wf law (s_take law A h).1 ∧ Px A (s_take law A h).1 ∧ Tb (s_take law A h).1 (s_take law A h).2.1 l.tail ∧ (s_take law A h).1.length ≤ A.length + 16 ∧ (s_take law A h).2.2 ≤ 30 := by
  cases e : n_bl (a_g A h) with
  | nil =>
    have es : s_take law A h = (A, 0, 0) := by unfold s_take; rw [e]
    rw [es]
    refine ⟨hw, Px.refl _, Or.inl ⟨rfl, ?_⟩, by show A.length ≤ _; omega, Nat.zero_le _⟩
    rcases hh with ⟨h1, h2⟩ | ⟨h1, h2⟩
    · rw [h2]; rfl
    · have := (heap_head hw h1 h2 hs).2
      rw [e] at this
      have this : ([] : List Nat).Perm l.tail := this
      exact this.symm.eq_nil
  | cons x q =>
    have hH : Hl A [h] := by
      rcases hh.or with hh | hh
      · exact hh
      · rw [hh, hw.2.1] at e; cases e
    obtain ⟨hq, hkk, hl, -, -, -⟩ := heap_q hw hH
    have hp := (heap_head hw hH (hh.perm hw) hs).2
    rw [e] at hq hkk hl hp
    have tk := take_ok hw hlaw hq hkk hl
    rw [s_take_cons e]
    obtain ⟨o, ho⟩ : ∃ o, o = s_least A x q := ⟨_, rfl⟩
    rw [← ho] at tk ⊢
    obtain ⟨g1, hg1⟩ : ∃ g1, g1 = s_merge A (n_bl (a_g A o)).reverse (s_but o (x :: q)) := ⟨_, rfl⟩
    simp only [← hg1] at tk ⊢
    obtain ⟨g2, hg2⟩ : ∃ g2, g2 = s_puts law g1.1 (n_sg (a_g A o)) g1.2.1 := ⟨_, rfl⟩
    simp only [← hg2] at tk ⊢
    obtain ⟨g3, hg3⟩ : ∃ g3, g3 = s_merge g2.1 (n_bl (a_g A (n_head (a_g A o)))) g2.2.1 := ⟨_, rfl⟩
    simp only [← hg3] at tk ⊢
    obtain ⟨-, w2, p2, t2, kk2, w3, p3, t3, s3, tnn, k1, k2, k3, k4⟩ := tk
    obtain ⟨r, s, hd, kb, t, er, es, eh, ek, et, n1, n2, n3, n4, n5, n6, n7, n8, n9, n10, n11, n12⟩ := tnn
    exact ⟨k1, k2, Or.inr ⟨k3, k4.trans hp⟩, by rw [List.length_append]; exact n12, by omega⟩
theorem new_tb {law : Nat} {A : hA} (hw : Wf law A) {t : Nat} (ht : t < 30000) : Wf law (A ++ [mkH A A.length t []]) ∧ Tb (A ++ [mkH A A.length t []]) A.length [t] := by
  obtain ⟨h1, h2, h3, h4⟩ := heap_new (q := []) hw (fun x hx => by simp at hx) (Qk.of_sx List.Pairwise.nil) (fun j hj => by simp [fm] at hj) ht (by simp [fm])
  exact ⟨h1, Or.inr ⟨h2, by rw [h3]; exact List.Perm.refl _⟩⟩
theorem step_tb {law w : Nat} {vs : List hVr} {v : hVr} {S : hH} {B : List (List Nat)} (hw : Wf law S.1) (hlaw : law = 0 ∨ law = 1) (hT : S.2.1.length = vs.length) (hB : B.length = vs.length) (hj : ∀ j, j < vs.length → Tb S.1 (S.2.1.getD j 0) (B.getD j []) ∧ So (B.getD j []) ∧ (B.getD j []).length ≤ ((b_all 99 vs).getD j []).length) (h30 : vs.length < 30) (hv : Ov vs v) :
    Wf law (h_step law w S v).1 ∧ Px S.1 (h_step law w S v).1 ∧ Tb (h_step law w S v).1 (h_step law w S v).2.1 (b_step w B v) ∧ (h_step law w S v).1.length ≤ S.1.length + 16 ∧ (h_step law w S v).2.2 ≤ 30 := by
  unfold h_step b_step
  rcases hv with h0 | ⟨h1, ho1, ⟨k, hk, et⟩, t1, t2, hsz⟩ | ⟨h2, ho1, ho2, hsz⟩ | ⟨h3, ho1, hsz⟩
  · have n1 : v_how v ≠ 1 := by omega
    have n2 : v_how v ≠ 2 := by omega
    have n3 : v_how v ≠ 3 := by omega
    simp only [if_neg n1, if_neg n2, if_neg n3]
    exact ⟨hw, Px.refl _, Or.inl ⟨rfl, rfl⟩, by show S.1.length ≤ _; omega, by omega⟩
  · obtain ⟨g1, g2, g3⟩ := hj _ ho1
    simp only [if_pos h1]
    by_cases c : vs.length = w
    · rw [if_pos (by omega), if_pos (by omega)]
      exact ⟨hw, Px.refl _, g1, by show S.1.length ≤ _; omega, Nat.zero_le _⟩
    · rw [if_neg (by omega), if_neg (by omega)]
      have hn := nput_le vs
      obtain ⟨a1, a2⟩ := new_tb hw (t := v_tu v) (by omega)
      have p := Px.snoc S.1 (mkH S.1 S.1.length (v_tu v) [])
      obtain ⟨b1, b2, b3, b4, b5⟩ := join_tb a1 hlaw a2 (g1.px p) (by rw [List.length_singleton]; omega)
      rw [List.length_append, List.length_singleton] at b4
      refine ⟨b1, p.trans b2, ?_, by omega, by omega⟩
      rcases b3 with ⟨c1, c2⟩ | ⟨c1, c2⟩
      · cases c2
      · exact Or.inr ⟨c1, c2.trans (ins_perm _ _).symm⟩
  · obtain ⟨g1, g2, g3⟩ := hj _ ho1
    obtain ⟨k1, k2, k3⟩ := hj _ ho2
    have n1 : v_how v ≠ 1 := by omega
    simp only [if_neg n1, if_pos h2]
    obtain ⟨b1, b2, b3, b4, b5⟩ := join_tb hw hlaw g1 k1 (by omega)
    refine ⟨b1, b2, ?_, by omega, by omega⟩
    rcases b3 with ⟨c1, c2⟩ | ⟨c1, c2⟩
    · have := (mix_perm (B.getD (v_of v) []) (B.getD (v_ot v) []))
      rw [c2] at this
      exact Or.inl ⟨c1, this.eq_nil⟩
    · exact Or.inr ⟨c1, c2.trans (mix_perm _ _).symm⟩
  · obtain ⟨g1, g2, g3⟩ := hj _ ho1
    have n1 : v_how v ≠ 1 := by omega
    have n2 : v_how v ≠ 2 := by omega
    simp only [if_neg n1, if_neg n2, if_pos h3]
    exact take_tb hw hlaw g1 g2
def Hi (law w : Nat) (vs : List hVr) : Prop := Wf law (h_all law w vs).1 ∧ (h_all law w vs).2.1.length = vs.length ∧ (h_all law w vs).2.2.length = vs.length ∧ (h_all law w vs).1.length ≤ 1 + 16 * vs.length ∧ ∀ j, j < vs.length → Tb (h_all law w vs).1 ((h_all law w vs).2.1.getD j 0) ((b_all w vs).getD j []) ∧ (h_all law w vs).2.2.getD j 0 ≤ 30
theorem hi_all {law : Nat} (hlaw : law = 0 ∨ law = 1) (w : Nat) (vs : List hVr) : Os vs → Hi law w vs := by
  refine snoc_ind (P := fun vs => Os vs → Hi law w vs) ?_ ?_ vs
  · intro _
    refine ⟨⟨by show 1 ≤ [n_0].length; simp, rfl, fun a h0 ha => ?_⟩, rfl, rfl, by show [n_0].length ≤ 1 + 0; simp, fun j hj => by simp at hj⟩
    have ha : a < [n_0].length := ha
    simp at ha
    omega
  · intro vs v ih hos
    obtain ⟨ho, h30, hv⟩ := os_snoc.mp hos
    obtain ⟨h1, h2, h3, h4, h5⟩ := ih ho
    obtain ⟨⟨hb1, hb2⟩, -⟩ := bo_all w vs ho
    obtain ⟨g1, g2, g3, g4, g5⟩ := step_tb (w := w) (v := v) h1 hlaw h2 hb1 (fun j hj => ⟨(h5 j hj).1, (hb2 j hj).1, (hb2 j hj).2.2.2⟩) h30 hv
    have eh := h_snoc law w vs v
    have eb : b_all w (vs ++ [v]) = b_all w vs ++ [b_step w (b_all w vs) v] := b_snoc w vs v
    have e1 : (h_all law w (vs ++ [v])).1 = (h_step law w (h_all law w vs) v).1 := by rw [eh]; rfl
    have e2 : (h_all law w (vs ++ [v])).2.1 = (h_all law w vs).2.1 ++ [(h_step law w (h_all law w vs) v).2.1] := by rw [eh]; rfl
    have e3 : (h_all law w (vs ++ [v])).2.2 = (h_all law w vs).2.2 ++ [(h_step law w (h_all law w vs) v).2.2] := by rw [eh]; rfl
    refine ⟨by rw [e1]; exact g1, by rw [e2, List.length_append, List.length_append, h2]; rfl, by rw [e3, List.length_append, List.length_append, h3]; rfl, ?_, fun j hj => ?_⟩
    · rw [e1, List.length_append]
      show _ ≤ 1 + 16 * (vs.length + 1)
      omega
    · rw [List.length_append] at hj
      have hj : j < vs.length + 1 := hj
      rw [e1, e2, e3, eb]
      by_cases hjl : j < vs.length
      · rw [getD_app _ _ _ (by omega), getD_app _ _ _ (by omega), getD_app _ _ _ (by omega)]
        exact ⟨(h5 j hjl).1.px g2, (h5 j hjl).2⟩
      · have ej : j = vs.length := by omega
        have q1 : ((h_all law w vs).2.1 ++ [(h_step law w (h_all law w vs) v).2.1]).getD j 0 = (h_step law w (h_all law w vs) v).2.1 := by rw [ej, ← h2]; exact getD_snoc _ _ _
        have q2 : ((h_all law w vs).2.2 ++ [(h_step law w (h_all law w vs) v).2.2]).getD j 0 = (h_step law w (h_all law w vs) v).2.2 := by rw [ej, ← h3]; exact getD_snoc _ _ _
        have q3 : (b_all w vs ++ [b_step w (b_all w vs) v]).getD j [] = b_step w (b_all w vs) v := by rw [ej, ← hb1]; exact getD_snoc _ _ _
        rw [q1, q2, q3]
        exact ⟨g3, g5⟩
