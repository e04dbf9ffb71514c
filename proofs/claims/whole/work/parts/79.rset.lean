/-! the reference: how many are marked -/
section
variable {law bit : Nat} {B : hA} {vs : List hVr} {G : hG} {Z W : List Nat}
theorem r_clr25 {N : Nat} (hN : N ≤ 8000) : ∀ (d n i : Nat) (m : hMem), i + d = N → m 65 18 = (N : Int) → d < n → ∃ m', L_X11_clears_25 n (i : Int) m = some (0, m') ∧ (∀ k, k ≠ 82 → m' k = m k) ∧ (∀ j, i ≤ j → j < N → m' 82 j = 0) ∧ ∀ j, j < i → m' 82 j = m 82 j
  | _, 0, _, _, _, _, hn => by omega
  | 0, n + 1, i, m, hi, h18, hn => by
    refine ⟨m, ?_, fun _ _ => rfl, fun j a b => by omega, fun _ _ => rfl⟩
    show B_X11_clears_25 (L_X11_clears_25 n) (i : Int) m = _
    unfold B_X11_clears_25
    rw [h18, hp_lt_f (by omega) (by omega) (by omega)]
    rfl
  | d + 1, n + 1, i, m, hi, h18, hn => by
    obtain ⟨m', a1, a2, a3, a4⟩ := r_clr25 hN d n (i + 1) (hv_up m 82 i 0) (by omega) (by rw [hp_up_k _ _ _ _ (by omega)]; exact h18) (by omega)
    refine ⟨m', ?_, fun k hk => by rw [a2 k hk, hp_up_kk _ _ _ hk], fun j x y => ?_, fun j x => by rw [a4 j (by omega), hp_up_j _ _ _ (by omega)]⟩
    · show B_X11_clears_25 (L_X11_clears_25 n) (i : Int) m = _
      unfold B_X11_clears_25
      rw [h18, hp_lt_t (by omega) (by omega) (by omega), hp_ast (by omega) (by omega), Int.toNat_natCast, hp_set]
      exact a1
    · by_cases c : j = i
      · rw [c, a4 i (by omega), hp_up_same]
      · exact a3 j (by omega) y
theorem r_clr2 {N : Nat} (hN : N ≤ 8000) : ∀ (d n i : Nat) (m : hMem), i + d = N → m 65 13 = (N : Int) → d < n → ∃ m', L_X11_clears_2 n (i : Int) m = L_X11_clears_25 hv_FU 0 m' ∧ (∀ k, k ≠ 81 → m' k = m k) ∧ (∀ j, i ≤ j → j < N → m' 81 j = 0) ∧ ∀ j, j < i → m' 81 j = m 81 j
  | _, 0, _, _, _, _, hn => by omega
  | 0, n + 1, i, m, hi, h13, hn => by
    refine ⟨m, ?_, fun _ _ => rfl, fun j a b => by omega, fun _ _ => rfl⟩
    show B_X11_clears_2 (L_X11_clears_2 n) (i : Int) m = _
    unfold B_X11_clears_2
    rw [h13, hp_lt_f (by omega) (by omega) (by omega)]
  | d + 1, n + 1, i, m, hi, h13, hn => by
    obtain ⟨m', a1, a2, a3, a4⟩ := r_clr2 hN d n (i + 1) (hv_up m 81 i 0) (by omega) (by rw [hp_up_k _ _ _ _ (by omega)]; exact h13) (by omega)
    refine ⟨m', ?_, fun k hk => by rw [a2 k hk, hp_up_kk _ _ _ hk], fun j x y => ?_, fun j x => by rw [a4 j (by omega), hp_up_j _ _ _ (by omega)]⟩
    · show B_X11_clears_2 (L_X11_clears_2 n) (i : Int) m = _
      unfold B_X11_clears_2
      rw [h13, hp_lt_t (by omega) (by omega) (by omega), hp_ast (by omega) (by omega), Int.toNat_natCast, hp_set]
      exact a1
    · by_cases c : j = i
      · rw [c, a4 i (by omega), hp_up_same]
      · exact a3 j (by omega) y
theorem mv_nil (bit a : Nat) : mv bit [] [] a = 0 := by unfold mv; rw [if_neg (by simp), if_neg (by simp)]; rfl
theorem r_clears {m : hMem} (h : Rel B vs G m) : ∃ m', f_X11_clears m = some (0, m') ∧ Fmk m m' ∧ Mk 1 [] [] G m' := by
  obtain ⟨h8, t8, -⟩ := h.2.2.2.1
  obtain ⟨m1, a1, a2, a3, -⟩ := r_clr2 h8 (g_H G).length hv_FU 0 m (by omega) h.1 (fu_lt (by omega))
  obtain ⟨m2, b1, b2, b3, -⟩ := r_clr25 t8 (g_T G).length hv_FU 0 m1 (by omega) (by rw [a2 65 (by omega)]; exact h.2.1) (fu_lt (by omega))
  refine ⟨m2, ?_, fun k k1 k2 => by rw [b2 k k2, a2 k k1], fun i a hi => ?_, fun i a hi => ?_⟩
  · unfold f_X11_clears
    exact Eq.trans a1 b1
  · rw [mv_nil, b2 81 (by omega)]; exact a3 i (by omega) (get_lt hi)
  · rw [mv_nil]; exact b3 i (by omega) (get_lt hi)
theorem mv_r (hb : bit = 1 ∨ bit = 2) (Z W : List Nat) (a : Nat) : 0 ≤ mv bit Z W a ∧ mv bit Z W a ≤ 3 := by
  unfold mv
  split <;> split <;> omega
theorem get_at (p r : List Nat) (x : Nat) : (p ++ x :: r)[p.length]? = some x := by simp
theorem r_mk38 {m : hMem} {x1 : Int} (hx : hv_R32 x1) (hb : bit = 1 ∨ bit = 2) (h : Rel B vs G m) (hM : Mk bit Z W G m) : ∀ (r p : List Nat) (n s : Nat), g_T G = p ++ r → r.length < n → L_X11_marked_38 n x1 (s : Int) (p.length : Int) m = some (((s + r.countP (fun a => decide (mv bit Z W a = x1)) : Nat) : Int), m)
  | _, _, 0, _, _, hn => by omega
  | [], p, n + 1, s, e, hn => by
    have t8 := h.2.2.2.1.2.1
    have e18 := h.2.1
    have el := congrArg List.length e
    rw [List.append_nil] at el
    show B_X11_marked_38 (L_X11_marked_38 n) x1 (s : Int) (p.length : Int) m = _
    unfold B_X11_marked_38
    rw [e18, hp_lt_f (by omega) (by omega) (by omega)]
    rfl
  | x :: r, p, n + 1, s, e, hn => by
    have t8 := h.2.2.2.1.2.1
    have e18 := h.2.1
    have el := congrArg List.length e
    rw [List.length_append, List.length_cons] at el
    simp only [List.length_cons] at hn
    have gx : (g_T G)[p.length]? = some x := by rw [e]; exact get_at p r x
    have r3 := mv_r hb Z W x
    have g := r_mk38 hx hb h hM r (p ++ [x]) n (s + (if mv bit Z W x = x1 then 1 else 0)) (by rw [e]; simp) (by omega)
    rw [List.length_append, List.length_singleton] at g
    show B_X11_marked_38 (L_X11_marked_38 n) x1 (s : Int) (p.length : Int) m = _
    unfold B_X11_marked_38 J_X11_marked_62
    rw [e18, hp_lt_t (by omega) (by omega) (by omega), hp_ald (by omega) (by omega), Int.toNat_natCast, hM.2 _ _ gx, List.countP_cons]
    by_cases c : mv bit Z W x = x1
    · rw [if_pos c] at g
      rw [hp_eq_t (by omega) hx c, hp_set, hp_set, show (s : Int) + 1 = ((s + 1 : Nat) : Int) by omega, show (p.length : Int) + 1 = ((p.length + 1 : Nat) : Int) by omega, g, if_pos (by simp [c]), show s + (r.countP (fun a => decide (mv bit Z W a = x1)) + 1) = s + 1 + r.countP (fun a => decide (mv bit Z W a = x1)) by omega]
    · rw [if_neg c] at g
      rw [hp_eq_f (by omega) hx (by omega), hp_set, hp_set, show (s : Int) + 0 = ((s + 0 : Nat) : Int) by omega, show (p.length : Int) + 1 = ((p.length + 1 : Nat) : Int) by omega, g, if_neg (by simp [c]), show s + (r.countP (fun a => decide (mv bit Z W a = x1)) + 0) = s + 0 + r.countP (fun a => decide (mv bit Z W a = x1)) by omega]
theorem r_mk4 {m : hMem} {x1 : Int} (hx : hv_R32 x1) (hb : bit = 1 ∨ bit = 2) (h : Rel B vs G m) (hM : Mk bit Z W G m) : ∀ (r p : List Nat) (n s : Nat), g_H G = p ++ r → r.length < n → L_X11_marked_4 n x1 (s : Int) (p.length : Int) m = L_X11_marked_38 hv_FU x1 ((s + r.countP (fun a => decide (mv bit Z W a = x1)) : Nat) : Int) 0 m
  | _, _, 0, _, _, hn => by omega
  | [], p, n + 1, s, e, hn => by
    have t8 := h.2.2.2.1.1
    have e18 := h.1
    have el := congrArg List.length e
    rw [List.append_nil] at el
    show B_X11_marked_4 (L_X11_marked_4 n) x1 (s : Int) (p.length : Int) m = _
    unfold B_X11_marked_4
    rw [e18, hp_lt_f (by omega) (by omega) (by omega)]
    rfl
  | x :: r, p, n + 1, s, e, hn => by
    have t8 := h.2.2.2.1.1
    have e18 := h.1
    have el := congrArg List.length e
    rw [List.length_append, List.length_cons] at el
    simp only [List.length_cons] at hn
    have gx : (g_H G)[p.length]? = some x := by rw [e]; exact get_at p r x
    have r3 := mv_r hb Z W x
    have g := r_mk4 hx hb h hM r (p ++ [x]) n (s + (if mv bit Z W x = x1 then 1 else 0)) (by rw [e]; simp) (by omega)
    rw [List.length_append, List.length_singleton] at g
    show B_X11_marked_4 (L_X11_marked_4 n) x1 (s : Int) (p.length : Int) m = _
    unfold B_X11_marked_4 J_X11_marked_28
    rw [e18, hp_lt_t (by omega) (by omega) (by omega), hp_ald (by omega) (by omega), Int.toNat_natCast, hM.1 _ _ gx, List.countP_cons]
    by_cases c : mv bit Z W x = x1
    · rw [if_pos c] at g
      rw [hp_eq_t (by omega) hx c, hp_set, hp_set, show (s : Int) + 1 = ((s + 1 : Nat) : Int) by omega, show (p.length : Int) + 1 = ((p.length + 1 : Nat) : Int) by omega, g, if_pos (by simp [c]), show s + (r.countP (fun a => decide (mv bit Z W a = x1)) + 1) = s + 1 + r.countP (fun a => decide (mv bit Z W a = x1)) by omega]
    · rw [if_neg c] at g
      rw [hp_eq_f (by omega) hx (by omega), hp_set, hp_set, show (s : Int) + 0 = ((s + 0 : Nat) : Int) by omega, show (p.length : Int) + 1 = ((p.length + 1 : Nat) : Int) by omega, g, if_neg (by simp [c]), show s + (r.countP (fun a => decide (mv bit Z W a = x1)) + 0) = s + 0 + r.countP (fun a => decide (mv bit Z W a = x1)) by omega]
theorem r_marked {m : hMem} {x1 : Int} (hx : hv_R32 x1) (hb : bit = 1 ∨ bit = 2) (h : Rel B vs G m) (hM : Mk bit Z W G m) : f_X11_marked x1 m = some ((((g_H G ++ g_T G).countP (fun a => decide (mv bit Z W a = x1)) : Nat) : Int), m) := by
  obtain ⟨h8, t8, -⟩ := h.2.2.2.1
  have g1 := r_mk4 hx hb h hM (g_H G) [] hv_FU 0 rfl (fu_lt (by omega))
  have g2 := r_mk38 hx hb h hM (g_T G) [] hv_FU (0 + (g_H G).countP (fun a => decide (mv bit Z W a = x1))) rfl (fu_lt (by omega))
  unfold f_X11_marked
  refine Eq.trans g1 (Eq.trans g2 ?_)
  rw [List.countP_append, Nat.zero_add]
theorem Lr.mem {m : hMem} {L : Nat} {M : List Nat} : ∀ {l : List Nat} {k : Int}, Lr m L M k l → ∀ x ∈ l, x ∈ M
  | y :: l, _, ⟨j, t, _, _, _, h4, h5⟩, x, hx => by
    rcases List.mem_cons.mp hx with e | e
    · rw [e]; exact List.mem_of_getElem? h4
    · exact Lr.mem h5 x e
/-- all that is reached is the reference's -/
theorem reach_HT (hw : Wf law B) {m : hMem} (h : Rel B vs G m) {r : Int} {a : Nat} (hr : Hp G r a) : ∀ y ∈ n_reach (a_g B a), y ∈ g_H G ++ g_T G := by
  rcases hr with ⟨a0, r0⟩ | ⟨i, ri, gi⟩
  · rw [a0, hw.2.1]
    intro y hy
    have hy : y ∈ ([] : List Nat) := hy
    cases hy
  · obtain ⟨a0, al, -⟩ := h.2.2.2.2.2.2.1 i a gi
    refine reach_sub (X := fun c => c ∈ g_H G ++ g_T G) hw (fun c hc c0 cl d hd d0 => ?_) (a + 1) a (Nat.lt_succ_self _) a0 al (List.mem_append_left _ (List.mem_of_getElem? gi))
    rcases List.mem_append.mp hc with e | e
    · obtain ⟨j, hj⟩ := List.getElem?_of_mem e
      obtain ⟨-, -, cd, -, -, c70⟩ := h.2.2.2.2.2.2.1 j c hj
      have n6 := (node_H hw c0 cl cd).2.2.2.2.2.1
      unfold ch at hd
      rw [cd, n6] at hd
      rcases List.mem_cons.mp hd with e | e
      · exact absurd e d0
      · exact List.mem_append_right _ (c70.mem d e)
    · obtain ⟨j, hj⟩ := List.getElem?_of_mem e
      obtain ⟨-, -, -, -, ⟨q, -, cH⟩, -, c73, c74⟩ := h.2.2.2.2.2.2.2 j c hj
      unfold ch at hd
      rcases List.mem_cons.mp hd with e | e
      · rw [e]; exact List.mem_append_left _ (List.mem_of_getElem? cH)
      · rcases List.mem_append.mp e with e | e
        · exact List.mem_append_left _ (c73.mem d e)
        · exact List.mem_append_right _ (c74.mem d e)
theorem ht_nodup {m : hMem} (h : Rel B vs G m) (hN : Nd B G) : (g_H G ++ g_T G).Nodup :=
  app_nodup (P1 := fun a => n_head (a_g B a) = 0) (P2 := fun a => n_head (a_g B a) ≠ 0) hN.1 hN.2.1 (fun a ha => by
    obtain ⟨j, hj⟩ := List.getElem?_of_mem ha
    exact (h.2.2.2.2.2.2.1 j a hj).2.2.1) (fun a ha => by
    obtain ⟨j, hj⟩ := List.getElem?_of_mem ha
    exact (h.2.2.2.2.2.2.2 j a hj).2.2.1) (fun x a b => b a)
end
theorem nd_len {l s : List Nat} (h1 : l.Nodup) (h2 : s.Nodup) (h : ∀ x, x ∈ l ↔ x ∈ s) : l.length = s.length :=
  Nat.le_antisymm (nodup_len h1 (fun x hx => (h x).mp hx)) (nodup_len h2 (fun x hx => (h x).mpr hx))
theorem cnt_set {l s : List Nat} {p : Nat → Bool} (hl : l.Nodup) (hs : s.Nodup) (h : ∀ x, x ∈ s ↔ x ∈ l ∧ p x = true) : l.countP p = s.length := by
  rw [List.countP_eq_length_filter]
  exact nd_len (hl.sublist List.filter_sublist) hs (fun x => by rw [List.mem_filter, h x])
/-- sums of sets -/
theorem set_diff {l y u : List Nat} {X Y : Nat → Prop} {p : Nat → Bool} (hl : l.Nodup) (hy : y.Nodup) (hu : u.Nodup) (hX : ∀ x, X x → x ∈ l) (my : ∀ x, x ∈ y ↔ Y x) (mu : ∀ x, x ∈ u ↔ Y x ∨ X x) (hp : ∀ x, x ∈ l → (p x = true ↔ X x ∧ ¬ Y x)) : l.countP p + y.length = u.length := by
  rw [List.countP_eq_length_filter, ← List.length_append]
  refine nd_len (app_nodup (P1 := fun x => ¬ Y x) (P2 := Y) (hl.sublist List.filter_sublist) hy (fun x hx => ((hp x (List.mem_filter.mp hx).1).mp (List.mem_filter.mp hx).2).2) (fun x hx => (my x).mp hx) (fun x a b => a b)) hu (fun x => ?_)
  rw [List.mem_append, List.mem_filter, my, mu]
  constructor
  · rintro (⟨h1, h2⟩ | h)
    · exact Or.inr ((hp x h1).mp h2).1
    · exact Or.inl h
  · intro h
    by_cases c : Y x
    · exact Or.inr c
    · have hx := h.resolve_left c
      exact Or.inl ⟨hX x hx, (hp x (hX x hx)).mpr ⟨hx, c⟩⟩
theorem set_both {l a y u : List Nat} {X Y : Nat → Prop} {p : Nat → Bool} (hl : l.Nodup) (ha : a.Nodup) (hy : y.Nodup) (hu : u.Nodup) (hX : ∀ x, X x → x ∈ l) (ma : ∀ x, x ∈ a ↔ X x) (my : ∀ x, x ∈ y ↔ Y x) (mu : ∀ x, x ∈ u ↔ Y x ∨ X x) (hp : ∀ x, p x = true ↔ X x ∧ Y x) : l.countP p + u.length = a.length + y.length := by
  have e1 : l.countP p = a.countP (fun x => decide (x ∈ y)) := by
    rw [List.countP_eq_length_filter, List.countP_eq_length_filter]
    refine nd_len (hl.sublist List.filter_sublist) (ha.sublist List.filter_sublist) (fun x => ?_)
    rw [List.mem_filter, List.mem_filter, hp, ma]
    constructor
    · intro ⟨_, h1, h2⟩
      exact ⟨h1, by simp [(my x).mpr h2]⟩
    · intro ⟨h1, h2⟩
      exact ⟨hX x h1, h1, (my x).mp (by simpa using h2)⟩
  have e2 : a.countP (fun x => decide (¬ x ∈ y)) + y.length = u.length := set_diff (X := X) (Y := Y) ha hy hu (fun x hx => (ma x).mpr hx) my mu (fun x hx => by
    rw [decide_eq_true_iff, my]
    exact ⟨fun h => ⟨(ma x).mp hx, h⟩, fun h => h.2⟩)
  · have e3 := List.length_eq_countP_add_countP (fun x => decide (x ∈ y)) (l := a)
    have e4 : a.countP (fun x => decide (¬ (decide (x ∈ y)) = true)) = a.countP (fun x => decide (¬ x ∈ y)) := by
      congr 1
      funext x
      simp
    rw [e4] at e3
    omega
