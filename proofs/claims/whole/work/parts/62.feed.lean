/-! feed, end -/
theorem and255 (a : Int) : 0 ≤ hv_and a 255 ∧ hv_and a 255 < 256 := by
  unfold hv_and
  have e : (hv_I a &&& hv_I 255).toInt = ((hv_I a).toBitVec &&& 255#32).toInt := rfl
  have hn : ((hv_I a).toBitVec &&& 255#32).toNat ≤ 255 := by
    rw [BitVec.toNat_and]
    exact Nat.and_le_right
  rw [e, bv_toInt (by omega)]
  omega
def by1 (x s : Int) : Nat := (hv_and (hv_ushr x s) 255).toNat
def by4 (x : Int) : List Nat := [by1 x 24, by1 x 16, by1 x 8, by1 x 0]
theorem by1_lt (x s : Int) : by1 x s < 256 ∧ ((by1 x s : Nat) : Int) = hv_and (hv_ushr x s) 255 := by
  have := and255 (hv_ushr x s)
  unfold by1
  omega
theorem c_add1 {bs : List Nat} {m : hMem} (h : TpC bs m) (h6 : bs.length < 600) (x s : Int) : ∃ m', hv_b (f_X10_set 2 600 (m 1 1) (hv_and (hv_ushr x s) 255) m) (fun r1 m2 => hv_put m2 1 1 ((m2 1 1) + 1) (fun m3 => some (0, m3))) = some (0, m') ∧ TpC (bs ++ [by1 x s]) m' ∧ Fr 1 3 m m' ∧ ∀ (f : hMem → hRs), hv_b (f_X10_set 2 600 (m 1 1) (hv_and (hv_ushr x s) 255) m) (fun r1 m2 => hv_put m2 1 1 ((m2 1 1) + 1) (fun m3 => f m3)) = f m' := by
  obtain ⟨b1, b2⟩ := by1_lt x s
  obtain ⟨m', em'⟩ : ∃ m' : hMem, m' = hv_up (hv_up m 2 bs.length (by1 x s : Int)) 1 1 ((bs.length : Int) + 1) := ⟨_, rfl⟩
  have e1 : hv_up m 2 bs.length (by1 x s : Int) 1 1 = (bs.length : Int) := by rw [hp_up_k _ _ _ _ (by omega)]; exact h.1
  have go : ∀ (f : hMem → hRs), hv_b (f_X10_set 2 600 (m 1 1) (hv_and (hv_ushr x s) 255) m) (fun r1 m2 => hv_put m2 1 1 ((m2 1 1) + 1) (fun m3 => f m3)) = f m' := fun f => by
    rw [h.1, ← b2, fe_set (by omega) (by omega) (by omega), hp_b, Int.toNat_natCast, hp_put, e1, em']
  refine ⟨m', go (fun m3 => some (0, m3)), ⟨?_, by rw [List.length_append, List.length_singleton]; omega, fun i hi => ?_, fun y hy => ?_⟩, by rw [em']; exact ((Fr.refl _ _ _).up (by omega)).up (by omega), go⟩
  · rw [em', hp_up_same, List.length_append]; rfl
  · rw [List.length_append, List.length_singleton] at hi
    rw [em', hp_up_k _ _ _ _ (by omega)]
    by_cases c : i = bs.length
    · rw [c, hp_up_same, getD_snoc]
    · rw [hp_up_j _ _ _ c, getD_app _ _ _ (by omega)]; exact h.2.2.1 i (by omega)
  · rcases List.mem_append.mp hy with hy | hy
    · exact h.2.2.2 y hy
    · simp at hy; omega
theorem c_addL {bs : List Nat} {m : hMem} (n : Nat) (h : TpC bs m) (h6 : bs.length < 600) (x s : Int) (hs : 0 ≤ s ∧ s ≤ 24) : ∃ m', L_X7_add_3 (n + 1) x s m = L_X7_add_3 n x (s + (-8)) m' ∧ TpC (bs ++ [by1 x s]) m' ∧ Fr 1 3 m m' := by
  obtain ⟨m', -, a2, a3, a4⟩ := c_add1 h h6 x s
  refine ⟨m', ?_, a2, a3⟩
  show B_X7_add_3 (L_X7_add_3 n) x s m = _
  unfold B_X7_add_3
  rw [hp_lt_f (by omega) (by decide) (by omega)]
  rw [a4 (fun m3 => hv_set (s + (-8)) (fun y4 => L_X7_add_3 n x y4 m3)), hp_set]
theorem c_add {bs : List Nat} {m : hMem} (h : TpC bs m) (h6 : bs.length + 4 ≤ 600) (x : Int) : ∃ m', f_X7_add x m = some (0, m') ∧ TpC (bs ++ by4 x) m' ∧ Fr 1 3 m m' := by
  have eF : ∀ m : hMem, f_X7_add x m = L_X7_add_3 (999995 + 1 + 1 + 1 + 1 + 1) x 24 m := fun m => rfl
  obtain ⟨m1, a1, a2, a3⟩ := c_addL (999995 + 1 + 1 + 1 + 1) h (by omega) x 24 (by omega)
  obtain ⟨m2, b1, b2, b3⟩ := c_addL (999995 + 1 + 1 + 1) a2 (by rw [List.length_append, List.length_singleton]; omega) x 16 (by omega)
  obtain ⟨m3, d1, d2, d3⟩ := c_addL (999995 + 1 + 1) b2 (by simp only [List.length_append, List.length_singleton]; omega) x 8 (by omega)
  obtain ⟨m4, e1, e2, e3⟩ := c_addL (999995 + 1) d2 (by simp only [List.length_append, List.length_singleton]; omega) x 0 (by omega)
  refine ⟨m4, ?_, ?_, ((a3.trans b3).trans d3).trans e3⟩
  · rw [eF, a1]
    refine Eq.trans b1 (Eq.trans d1 (Eq.trans e1 ?_))
    show B_X7_add_3 (L_X7_add_3 999995) x (0 + -8) m4 = _
    unfold B_X7_add_3
    rw [hp_lt_t (by decide) (by decide) (by decide)]
    rfl
  · rw [show bs ++ by4 x = bs ++ [by1 x 24] ++ [by1 x 16] ++ [by1 x 8] ++ [by1 x 0] by simp [by4]]
    exact e2
theorem c_feed {S : hS} {r : Nat} {m : hMem} (h : CI S r m) (x1 x2 x3 x4 x5 : Int) :
    (580 < (s_bs S).length → f_X10_feed x1 x2 x3 x4 x5 m = some (-1, m)) ∧
    ((s_bs S).length ≤ 580 → ∃ m', f_X10_feed x1 x2 x3 x4 x5 m = some ((((s_bs S).length + 20 : Nat) : Int), m') ∧ CI (S.1, s_vs S, s_bs S ++ (by4 x1 ++ by4 x2 ++ by4 x3 ++ by4 x4 ++ by4 x5), s_ff S) r m' ∧ FC m m') := by
  obtain ⟨i1, i2, i3, i4, ⟨R0, R1, i5⟩, i6, i7, i8, i9, i10, i11⟩ := h
  have h6 := i6.2.1
  refine ⟨fun c => ?_, fun c => ?_⟩
  · unfold f_X10_feed
    rw [t_len i6, hp_b, hp_lt_t (by decide) (by omega) (by omega)]
    rfl
  · have b4 : ∀ x, (by4 x).length = 4 := fun x => rfl
    obtain ⟨m1, a1, a2, a3⟩ := c_add i6 (by omega) x1
    obtain ⟨m2, b1, b2, b3⟩ := c_add a2 (by simp only [List.length_append, b4]; omega) x2
    obtain ⟨m3, d1, d2, d3⟩ := c_add b2 (by simp only [List.length_append, b4]; omega) x3
    obtain ⟨m4, e1, e2, e3⟩ := c_add d2 (by simp only [List.length_append, b4]; omega) x4
    obtain ⟨m5, g1, g2, g3⟩ := c_add e2 (by simp only [List.length_append, b4]; omega) x5
    have F : Fr 1 3 m m5 := (((a3.trans b3).trans d3).trans e3).trans g3
    have el : s_bs S ++ by4 x1 ++ by4 x2 ++ by4 x3 ++ by4 x4 ++ by4 x5 = s_bs S ++ (by4 x1 ++ by4 x2 ++ by4 x3 ++ by4 x4 ++ by4 x5) := by simp only [List.append_assoc]
    refine ⟨m5, ?_, ⟨by rw [F 0 (by omega)]; exact i1, by rw [F 0 (by omega)]; exact i2, by rw [F 0 (by omega)]; exact i3, by rw [F 0 (by omega)]; exact i4, ⟨R0, R1, i5.eq (fun k k1 k2 _ => F k (by omega))⟩, ?_, by rw [F 3 (by omega)]; exact i7, by rw [F 3 (by omega)]; exact i8, i9.eq (F 10 (by omega)), by rw [F 58 (by omega)]; exact i10, fun c hc => by rw [F 59 (by omega)]; exact i11 c hc⟩, fun k hk => F k (by omega)⟩
    · unfold f_X10_feed
      rw [t_len i6, hp_b, hp_lt_f (by decide) (by omega) (by omega), a1, hp_b, b1, hp_b, d1, hp_b, e1, hp_b, g1, hp_b, t_len g2, hp_b]
      rw [show ((s_bs S ++ by4 x1 ++ by4 x2 ++ by4 x3 ++ by4 x4 ++ by4 x5).length : Int) = (((s_bs S).length + 20 : Nat) : Int) by simp only [List.length_append, b4]]
      rfl
    · show TpC (s_bs S ++ (by4 x1 ++ by4 x2 ++ by4 x3 ++ by4 x4 ++ by4 x5)) m5
      rw [← el]; exact g2
theorem take_getD {l : List Nat} {n i : Nat} (h : i < n) : (l.take n).getD i 0 = l.getD i 0 := by
  rw [List.getD_eq_getElem?_getD, List.getD_eq_getElem?_getD, List.getElem?_take_of_lt h]
theorem c_end {S : hS} {r : Nat} {m : hMem} (h : CI S r m) {x : Int} (hx : hv_R32 x) :
    (¬ (0 ≤ x ∧ x ≤ ((s_bs S).length : Int)) → f_X10_end x m = some (-1, m)) ∧
    (0 ≤ x ∧ x ≤ ((s_bs S).length : Int) → ∃ m', f_X10_end x m = some (x, m') ∧ CI (S.1, s_vs S, (s_bs S).take x.toNat, s_ff S) r m' ∧ FC m m') := by
  obtain ⟨i1, i2, i3, i4, ⟨R0, R1, i5⟩, i6, i7, i8, i9, i10, i11⟩ := h
  have h6 := i6.2.1
  refine ⟨fun c => ?_, fun c => ?_⟩
  · unfold f_X10_end
    by_cases c0 : x < 0
    · rw [hp_lt_t hx (by decide) c0]; rfl
    · rw [hp_lt_f hx (by decide) (by omega), t_len i6, hp_b, hp_lt_t (by omega) hx (by omega)]; rfl
  · have F : Fr 1 2 m (hv_up m 1 1 x) := (Fr.refl _ _ _).up (by omega)
    refine ⟨hv_up m 1 1 x, ?_, ⟨by rw [F 0 (by omega)]; exact i1, by rw [F 0 (by omega)]; exact i2, by rw [F 0 (by omega)]; exact i3, by rw [F 0 (by omega)]; exact i4, ⟨R0, R1, i5.eq (fun k k1 k2 _ => F k (by omega))⟩, ?_, by rw [F 3 (by omega)]; exact i7, by rw [F 3 (by omega)]; exact i8, i9.eq (F 10 (by omega)), by rw [F 58 (by omega)]; exact i10, fun c hc => by rw [F 59 (by omega)]; exact i11 c hc⟩, fun k hk => F k (by omega)⟩
    · unfold f_X10_end f_X7_cut
      rw [hp_lt_f hx (by decide) (by omega), t_len i6, hp_b, hp_lt_f (by omega) hx (by omega), hp_put]
      rfl
    · have el : ((s_bs S).take x.toNat).length = x.toNat := by rw [List.length_take]; omega
      show TpC ((s_bs S).take x.toNat) _
      refine ⟨by rw [hp_up_same, el]; omega, by omega, fun i hi => ?_, fun y hy => i6.2.2.2 y (List.mem_of_mem_take hy)⟩
      rw [el] at hi
      rw [hp_up_k _ _ _ _ (by omega), take_getD hi]
      exact i6.2.2.1 i (by omega)
/-! the reference: what holds between its calls -/
theorem fe_in {a b c : Int} {m : hMem} (ha : hv_R32 a) (hb : hv_R32 b) (hc : hv_R32 c) : f_X11_in a b c m = some (if b ≤ a ∧ a ≤ c then 1 else 0, m) := by
  have r64 : ∀ x, hv_R32 x → hv_R64 x := fun x h => by unfold hv_R32 at h; unfold hv_R64; omega
  unfold f_X11_in hv_lc hv_cmp
  rw [if_pos ⟨r64 a ha, r64 b hb⟩]
  by_cases c1 : a < b
  · rw [if_pos c1, hp_lt_t (by decide) (by decide) (by decide), if_neg (by omega), hp_zr0]
  · rw [if_neg c1]
    have e : hv_lt (if a = b then 0 else 1) 0 (hv_zr 0 m) (if hv_R64 a ∧ hv_R64 c then hv_lt 0 (if a < c then -1 else if a = c then 0 else 1) (hv_zr 0 m) (hv_zr 1 m) else none) = (if hv_R64 a ∧ hv_R64 c then hv_lt 0 (if a < c then -1 else if a = c then 0 else 1) (hv_zr 0 m) (hv_zr 1 m) else none) := by
      by_cases c2 : a = b
      · rw [if_pos c2, hp_lt_f (by decide) (by decide) (by decide)]
      · rw [if_neg c2, hp_lt_f (by decide) (by decide) (by decide)]
    rw [e, if_pos ⟨r64 a ha, r64 c hc⟩]
    by_cases c3 : a < c
    · rw [if_pos c3, hp_lt_f (by decide) (by decide) (by decide), if_pos (by omega), hp_zr1]
    · rw [if_neg c3]
      by_cases c4 : a = c
      · rw [if_pos c4, hp_lt_f (by decide) (by decide) (by decide), if_pos (by omega), hp_zr1]
      · rw [if_neg c4, hp_lt_t (by decide) (by decide) (by decide), if_neg (by omega), hp_zr0]
def TpR (bs : List Nat) (m : hMem) : Prop := m 65 3 = (bs.length : Int) ∧ ∀ i, i < bs.length → m 68 i = ((bs.getD i 0 : Nat) : Int)
def Mv (vs : List hVr) (j : Nat) (v : hVr) (m : hMem) : Prop := m 66 (6 + j) = (v_how v : Int) ∧ m 66 (36 + j) = (if v_how v = 0 then -1 else (v_of v : Int)) ∧ m 66 (66 + j) = (if v_how v = 2 then (v_ot v : Int) else -1) ∧ m 66 (96 + j) = (if v_how v = 1 then ((v_tu v % 30 : Nat) : Int) else -1) ∧ m 66 (186 + j) = (sz vs j : Int)
def RM (vs : List hVr) (m : hMem) : Prop := m 66 2 = (vs.length : Int) ∧ m 66 3 = (nput vs : Int) ∧ (∀ j v, vs[j]? = some v → Mv vs j v m) ∧ ∀ j k c : Nat, (jl vs)[j]? = some (k, c) → m 66 (126 + j) = (k : Int) ∧ m 66 (156 + j) = (c : Int)
def RI (S : hS) (m : hMem) : Prop := m 66 0 = (s_la S : Int) ∧ m 66 1 = (s_ha S : Int) ∧ m 66 4 = (s_to S : Int) ∧ m 66 5 = (s_li S : Int) ∧ RM (s_vs S) m ∧ TpR (s_bs S) m ∧ m 65 4 = (s_ff S).1 ∧ m 65 5 = (s_ff S).2
/-- the reference's frame: the class's cells stay -/
def FR (m m' : hMem) : Prop := ∀ k, k < 65 → m' k = m k
theorem FR.refl (m : hMem) : FR m m := fun _ _ => rfl
theorem FR.trans {m1 m2 m3 : hMem} (h1 : FR m1 m2) (h2 : FR m2 m3) : FR m1 m3 := fun k hk => (h2 k hk).trans (h1 k hk)
theorem RM.eq {vs : List hVr} {m m' : hMem} (h : RM vs m) (e : m' 66 = m 66) : RM vs m' := by
  obtain ⟨h1, h2, h3, h4⟩ := h
  refine ⟨by rw [e]; exact h1, by rw [e]; exact h2, fun j v hj => ?_, fun j k c hj => by rw [e]; exact h4 j k c hj⟩
  unfold Mv
  rw [e]
  exact h3 j v hj
theorem RI.eq {S : hS} {m m' : hMem} (h : RI S m) (e66 : m' 66 = m 66) (e68 : m' 68 = m 68) (e65 : ∀ j, j = 3 ∨ j = 4 ∨ j = 5 → m' 65 j = m 65 j) : RI S m' := by
  obtain ⟨h1, h2, h3, h4, h5, h6, h7, h8⟩ := h
  exact ⟨by rw [e66]; exact h1, by rw [e66]; exact h2, by rw [e66]; exact h3, by rw [e66]; exact h4, h5.eq e66, ⟨by rw [e65 3 (by omega)]; exact h6.1, fun i hi => by rw [e68]; exact h6.2 i hi⟩, by rw [e65 4 (by omega)]; exact h7, by rw [e65 5 (by omega)]; exact h8⟩
theorem dm4 : ∀ k : Nat, k < 20 → hv_div (k : Int) 4 = ((k / 4 : Nat) : Int) ∧ hv_rem (k : Int) 4 = ((k % 4 : Nat) : Int) := by decide
def fy (fE : Nat → Int) (k : Nat) : Nat := by1 (fE (k / 4)) (24 - 8 * ((k % 4 : Nat) : Int))
theorem r_feedL {bs : List Nat} {fE : Nat → Int} (h6 : bs.length + 20 ≤ 600) : ∀ (d n k : Nat) (m : hMem), k + d = 20 → d < n → m 65 3 = (bs.length : Int) → (∀ i, i < bs.length + k → m 68 i = (((bs ++ (List.range 20).map (fy fE)).getD i 0 : Nat) : Int)) →
    ∃ m', L_X11_feed_42 n (k : Int) fE m = some (((bs.length + 20 : Nat) : Int), m') ∧ TpR (bs ++ (List.range 20).map (fy fE)) m' ∧ (∀ k, k ≠ 65 → k ≠ 68 → m' k = m k) ∧ ∀ j, j ≠ 3 → m' 65 j = m 65 j
  | _, 0, _, _, _, hn, _, _ => by omega
  | 0, n + 1, k, m, hk, hn, h3, h => by
    have k20 : k = 20 := by omega
    subst k20
    refine ⟨hv_up m 65 3 ((bs.length : Int) + 20), ?_, ⟨?_, fun i hi => ?_⟩, fun k k1 k2 => hp_up_kk _ _ _ k1, fun j hj => hp_up_j _ _ _ hj⟩
    · show B_X11_feed_42 (L_X11_feed_42 n) ((20 : Nat) : Int) fE m = _
      unfold B_X11_feed_42
      rw [hp_lt_f (by decide) (by decide) (by decide), hp_put, h3, hp_up_same]
      rfl
    · rw [hp_up_same, List.length_append, List.length_map, List.length_range]; omega
    · rw [List.length_append, List.length_map, List.length_range] at hi
      rw [hp_up_k _ _ _ _ (by omega)]
      exact h i hi
  | d + 1, n + 1, k, m, hk, hn, h3, h => by
    obtain ⟨q1, q2⟩ := dm4 k (by omega)
    obtain ⟨b1, b2⟩ := by1_lt (fE (k / 4)) (24 - 8 * ((k % 4 : Nat) : Int))
    obtain ⟨m1, em1⟩ : ∃ m1 : hMem, m1 = hv_up m 68 (bs.length + k) ((fy fE k : Nat) : Int) := ⟨_, rfl⟩
    obtain ⟨m', g1, g2, g3, g4⟩ := r_feedL (fE := fE) h6 d n (k + 1) m1 (by omega) (by omega) (by rw [em1, hp_up_k _ _ _ _ (by omega)]; exact h3) (fun i hi => by
      rw [em1]
      by_cases c : i = bs.length + k
      · rw [c, hp_up_same, List.getD_eq_getElem?_getD, List.getElem?_append_right (by omega), show bs.length + k - bs.length = k by omega, List.getElem?_map, List.getElem?_range (by omega)]
        rfl
      · rw [hp_up_j _ _ _ c]; exact h i (by omega))
    refine ⟨m', ?_, g2, fun k k1 k2 => by rw [g3 k k1 k2, em1, hp_up_kk _ _ _ k2], fun j hj => by rw [g4 j hj, em1, hp_up_k _ _ _ _ (by omega)]⟩
    show B_X11_feed_42 (L_X11_feed_42 n) (k : Int) fE m = _
    unfold B_X11_feed_42 hv_nld
    rw [hp_lt_t (by omega) (by decide) (by omega), q1, q2, if_pos ⟨by omega, by omega⟩, Int.toNat_natCast, h3]
    show hv_ast m 68 600 ((bs.length : Int) + (k : Int)) (hv_and (hv_ushr (fE (k / 4)) (24 - 8 * ((k % 4 : Nat) : Int))) 255) (fun m3 => hv_set ((k : Int) + 1) (fun y4 => L_X11_feed_42 n y4 fE m3)) = _
    rw [← b2, hp_ast (by omega) (by omega), show ((bs.length : Int) + (k : Int)).toNat = bs.length + k by omega, hp_set]
    rw [show hv_up m 68 (bs.length + k) ((by1 (fE (k / 4)) (24 - 8 * ((k % 4 : Nat) : Int)) : Nat) : Int) = m1 from em1.symm]
    exact g1
theorem r_feed {S : hS} {m : hMem} (hA : AV S) (h : RI S m) (x1 x2 x3 x4 x5 : Int) :
    (580 < (s_bs S).length → f_X11_feed x1 x2 x3 x4 x5 m = some (-1, m)) ∧
    ((s_bs S).length ≤ 580 → ∃ m', f_X11_feed x1 x2 x3 x4 x5 m = some ((((s_bs S).length + 20 : Nat) : Int), m') ∧ RI (S.1, s_vs S, s_bs S ++ (by4 x1 ++ by4 x2 ++ by4 x3 ++ by4 x4 ++ by4 x5), s_ff S) m' ∧ FR m m') := by
  obtain ⟨h1, h2, h3, h4, h5, h6, h7, h8⟩ := h
  have b600 := hA.2.2.2.2.2.2.2.2.1
  refine ⟨fun c => ?_, fun c => ?_⟩
  · unfold f_X11_feed
    rw [h6.1, hp_lt_t (by decide) (by omega) (by omega)]
    rfl
  · obtain ⟨fE, hfE⟩ : ∃ fE : Nat → Int, fE = (fun j => if j = (4 : Int).toNat then x5 else (fun j => if j = (3 : Int).toNat then x4 else (fun j => if j = (2 : Int).toNat then x3 else (fun j => if j = (1 : Int).toNat then x2 else (fun j => if j = (0 : Int).toNat then x1 else (fun _ => 0) j) j) j) j) j) := ⟨_, rfl⟩
    have el : (List.range 20).map (fy fE) = by4 x1 ++ by4 x2 ++ by4 x3 ++ by4 x4 ++ by4 x5 := by rw [hfE]; rfl
    obtain ⟨m', g1, g2, g3, g4⟩ := r_feedL (bs := s_bs S) (fE := fE) (by omega) 20 hv_FU 0 m (by omega) (fu_lt (by omega)) h6.1 (fun i hi => by
      rw [Nat.add_zero] at hi
      rw [List.getD_eq_getElem?_getD, List.getElem?_append_left hi, ← List.getD_eq_getElem?_getD]
      exact h6.2 i hi)
    rw [el] at g2
    refine ⟨m', ?_, ⟨by rw [g3 66 (by omega) (by omega)]; exact h1, by rw [g3 66 (by omega) (by omega)]; exact h2, by rw [g3 66 (by omega) (by omega)]; exact h3, by rw [g3 66 (by omega) (by omega)]; exact h4, h5.eq (g3 66 (by omega) (by omega)), g2, by rw [g4 4 (by omega)]; exact h7, by rw [g4 5 (by omega)]; exact h8⟩, fun k hk => g3 k (by omega) (by omega)⟩
    unfold f_X11_feed
    rw [h6.1, hp_lt_f (by decide) (by omega) (by omega)]
    simp only [hv_nst]
    rw [if_pos (by decide), if_pos (by decide), if_pos (by decide), if_pos (by decide), if_pos (by decide), ← hfE]
    exact g1
theorem r_end {S : hS} {m : hMem} (hA : AV S) (h : RI S m) {x : Int} (hx : hv_R32 x) :
    (¬ (0 ≤ x ∧ x ≤ ((s_bs S).length : Int)) → f_X11_end x m = some (-1, m)) ∧
    (0 ≤ x ∧ x ≤ ((s_bs S).length : Int) → ∃ m', f_X11_end x m = some (x, m') ∧ RI (S.1, s_vs S, (s_bs S).take x.toNat, s_ff S) m' ∧ FR m m') := by
  obtain ⟨h1, h2, h3, h4, h5, h6, h7, h8⟩ := h
  have b600 := hA.2.2.2.2.2.2.2.2.1
  refine ⟨fun c => ?_, fun c => ?_⟩
  · unfold f_X11_end
    rw [h6.1, hp_rg hx, hp_rg (by omega), fe_in hx (by decide) (by omega), hp_b, if_neg c, hp_eq_t (by decide) (by decide) rfl]
    rfl
  · have F : Fr 65 66 m (hv_up m 65 3 x) := (Fr.refl _ _ _).up (by omega)
    refine ⟨hv_up m 65 3 x, ?_, ⟨by rw [F 66 (by omega)]; exact h1, by rw [F 66 (by omega)]; exact h2, by rw [F 66 (by omega)]; exact h3, by rw [F 66 (by omega)]; exact h4, h5.eq (F 66 (by omega)), ?_, by rw [hp_up_j _ _ _ (by omega)]; exact h7, by rw [hp_up_j _ _ _ (by omega)]; exact h8⟩, fun k hk => F k (by omega)⟩
    · unfold f_X11_end
      rw [h6.1, hp_rg hx, hp_rg (by omega), fe_in hx (by decide) (by omega), hp_b, if_pos c, hp_eq_f (by decide) (by decide) (by decide), hp_put]
      rfl
    · have el : ((s_bs S).take x.toNat).length = x.toNat := by rw [List.length_take]; omega
      show TpR ((s_bs S).take x.toNat) _
      refine ⟨by rw [hp_up_same, el]; omega, fun i hi => ?_⟩
      rw [el] at hi
      rw [hp_up_k _ _ _ _ (by omega), take_getD hi]
      exact h6.2 i (by omega)
