/-! feed, end -/
theorem and255 (a : Int) : 0 ≤ hv_and a 255 ∧ hv_and a 255 < 256 := by
  unfold hv_and
  have e : (hv_I a &&& hv_I 255).toInt = ((hv_I a).toBitVec &&& 255#32).toInt := rfl
  have hn : ((hv_I a).toBitVec &&& 255#32).toNat ≤ 255 := by
    rw [BitVec.toNat_and]
    exact Nat.and_le_right
  rw [e, bv_toInt (by omega)]
  omega
def by1 (x s : Int) : Nat := (hv_and (hv_ushr x s) 255).toNat
def by4 (x : Int) : List Nat := [by1 x 24, by1 x 16, by1 x 8, by1 x 0]
theorem by1_lt (x s : Int) : by1 x s < 256 ∧ ((by1 x s : Nat) : Int) = hv_and (hv_ushr x s) 255 := by
  have := and255 (hv_ushr x s)
  unfold by1
  omega
theorem c_add1 {bs : List Nat} {m : hMem} (h : TpC bs m) (h6 : bs.length < 600) (x s : Int) : ∃ m', hv_b (f_X10_set 2 600 (m 1 1) (hv_and (hv_ushr x s) 255) m) (fun r1 m2 => hv_put m2 1 1 ((m2 1 1) + 1) (fun m3 => some (0, m3))) = some (0, m') ∧ TpC (bs ++ [by1 x s]) m' ∧ Fr 1 3 m m' ∧ ∀ (f : hMem → hRs), hv_b (f_X10_set 2 600 (m 1 1) (hv_and (hv_ushr x s) 255) m) (fun r1 m2 => hv_put m2 1 1 ((m2 1 1) + 1) (fun m3 => f m3)) = f m' := by
  obtain ⟨b1, b2⟩ := by1_lt x s
  obtain ⟨m', em'⟩ : ∃ m' : hMem, m' = hv_up (hv_up m 2 bs.length (by1 x s : Int)) 1 1 ((bs.length : Int) + 1) := ⟨_, rfl⟩
  have e1 : hv_up m 2 bs.length (by1 x s : Int) 1 1 = (bs.length : Int) := by rw [hp_up_k _ _ _ _ (by omega)]; exact h.1
  have go : ∀ (f : hMem → hRs), hv_b (f_X10_set 2 600 (m 1 1) (hv_and (hv_ushr x s) 255) m) (fun r1 m2 => hv_put m2 1 1 ((m2 1 1) + 1) (fun m3 => f m3)) = f m' := fun f => by
    rw [h.1, ← b2, fe_set (by omega) (by omega) (by omega), hp_b, Int.toNat_natCast, hp_put, e1, em']
  refine ⟨m', go (fun m3 => some (0, m3)), ⟨?_, by rw [List.length_append, List.length_singleton]; omega, fun i hi => ?_, fun y hy => ?_⟩, by rw [em']; exact ((Fr.refl _ _ _).up (by omega)).up (by omega), go⟩
  · rw [em', hp_up_same, List.length_append]; rfl
  · rw [List.length_append, List.length_singleton] at hi
    rw [em', hp_up_k _ _ _ _ (by omega)]
    by_cases c : i = bs.length
    · rw [c, hp_up_same, getD_snoc]
    · rw [hp_up_j _ _ _ c, getD_app _ _ _ (by omega)]; exact h.2.2.1 i (by omega)
  · rcases List.mem_append.mp hy with hy | hy
    · exact h.2.2.2 y hy
    · simp at hy; omega
theorem c_addL {bs : List Nat} {m : hMem} (n : Nat) (h : TpC bs m) (h6 : bs.length < 600) (x s : Int) (hs : 0 ≤ s ∧ s ≤ 24) : ∃ m', L_X7_add_3 (n + 1) x s m = L_X7_add_3 n x (s + (-8)) m' ∧ TpC (bs ++ [by1 x s]) m' ∧ Fr 1 3 m m' := by
  obtain ⟨m', -, a2, a3, a4⟩ := c_add1 h h6 x s
  refine ⟨m', ?_, a2, a3⟩
  show B_X7_add_3 (L_X7_add_3 n) x s m = _
  unfold B_X7_add_3
  rw [hp_lt_f (by omega) (by decide) (by omega)]
  rw [a4 (fun m3 => hv_set (s + (-8)) (fun y4 => L_X7_add_3 n x y4 m3)), hp_set]
theorem c_add {bs : List Nat} {m : hMem} (h : TpC bs m) (h6 : bs.length + 4 ≤ 600) (x : Int) : ∃ m', f_X7_add x m = some (0, m') ∧ TpC (bs ++ by4 x) m' ∧ Fr 1 3 m m' := by
  have eF : ∀ m : hMem, f_X7_add x m = L_X7_add_3 (999995 + 1 + 1 + 1 + 1 + 1) x 24 m := fun m => rfl
  obtain ⟨m1, a1, a2, a3⟩ := c_addL (999995 + 1 + 1 + 1 + 1) h (by omega) x 24 (by omega)
  obtain ⟨m2, b1, b2, b3⟩ := c_addL (999995 + 1 + 1 + 1) a2 (by rw [List.length_append, List.length_singleton]; omega) x 16 (by omega)
  obtain ⟨m3, d1, d2, d3⟩ := c_addL (999995 + 1 + 1) b2 (by simp only [List.length_append, List.length_singleton]; omega) x 8 (by omega)
  obtain ⟨m4, e1, e2, e3⟩ := c_addL (999995 + 1) d2 (by simp only [List.length_append, List.length_singleton]; omega) x 0 (by omega)
  refine ⟨m4, ?_, ?_, ((a3.trans b3).trans d3).trans e3⟩
  · rw [eF, a1]
    refine Eq.trans b1 (Eq.trans d1 (Eq.trans e1 ?_))
    show B_X7_add_3 (L_X7_add_3 999995) x (0 + -8) m4 = _
    unfold B_X7_add_3
    rw [hp_lt_t (by decide) (by decide) (by decide)]
    rfl
  · rw [show bs ++ by4 x = bs ++ [by1 x 24] ++ [by1 x 16] ++ [by1 x 8] ++ [by1 x 0] by simp [by4]]
    exact e2
