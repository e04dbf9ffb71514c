/-! calls on both: the ground -/
def Ee (bs : List Nat) (f : Int × Int) : Prop := (1 ≤ f.1 ∧ f.1 ≤ 3) ∧ ∃ q, f.2 = pl bs q
theorem ee_mk (bs q : List Nat) {k : Int} (h : 1 ≤ k ∧ k ≤ 3) : Ee bs (k, pl bs q) := ⟨h, q, rfl⟩
theorem num_ee {bs q : List Nat} {lo hi : Nat} {f : Int × Int} (h : e_num bs q lo hi = .error f) : Ee bs f := by
  unfold e_num at h
  split at h
  · split at h
    · cases h
    · injection h with h; rw [← h]; exact ee_mk bs q (by decide)
  · injection h with h; rw [← h]; exact ee_mk bs q (by decide)
theorem end_ee {α : Type} {bs q : List Nat} {a : α} {f : Int × Int} (h : e_end bs q a = .error f) : Ee bs f := by
  unfold e_end at h
  split at h
  · cases h
  · injection h with h; rw [← h]; exact ee_mk bs q (by decide)
theorem plan_ee {bs q : List Nat} {f : Int × Int} (h : e_plan bs q = .error f) : Ee bs f := by
  unfold e_plan at h
  split at h
  · injection h with h; rw [← h]; exact ee_mk bs _ (by decide)
  · split at h
    · injection h with h; rw [← h]; exact ee_mk bs _ (by decide)
    · split at h
      · rename_i f1 h1
        injection h with h; rw [← h]; exact num_ee h1
      · split at h
        · injection h with h; rw [← h]; exact ee_mk bs _ (by decide)
        · split at h
          · rename_i f1 h1
            injection h with h; rw [← h]; exact num_ee h1
          · exact end_ee h
theorem put_ee {bs q : List Nat} {vs : List hVr} {f : Int × Int} (h : e_put bs vs q = .error f) : Ee bs f := by
  unfold e_put at h
  split at h
  · rename_i f1 h1
    injection h with h; rw [← h]; exact num_ee h1
  · split at h
    · injection h with h; rw [← h]; exact ee_mk bs _ (by decide)
    · split at h
      · rename_i f1 h1
        injection h with h; rw [← h]; exact num_ee h1
      · split at h
        · injection h with h; rw [← h]; exact ee_mk bs _ (by decide)
        · split at h
          · rename_i f1 h1
            injection h with h; rw [← h]; exact num_ee h1
          · exact end_ee h
theorem join_ee {bs q : List Nat} {vs : List hVr} {f : Int × Int} (h : e_join bs vs q = .error f) : Ee bs f := by
  unfold e_join at h
  split at h
  · rename_i f1 h1
    injection h with h; rw [← h]; exact num_ee h1
  · split at h
    · rename_i f1 h1
      injection h with h; rw [← h]; exact num_ee h1
    · split at h
      · injection h with h; rw [← h]; exact ee_mk bs _ (by decide)
      · exact end_ee h
theorem take_ee {bs q : List Nat} {vs : List hVr} {f : Int × Int} (h : e_take bs vs q = .error f) : Ee bs f := by
  unfold e_take at h
  split at h
  · rename_i f1 h1
    injection h with h; rw [← h]; exact num_ee h1
  · split at h
    · injection h with h; rw [← h]; exact ee_mk bs _ (by decide)
    · exact end_ee h
theorem ver_ee {bs q : List Nat} {vs : List hVr} {f : Int × Int} (h : e_ver bs vs q = .error f) : Ee bs f := by
  unfold e_ver at h
  split at h
  · split at h
    · injection h with h; rw [← h]; exact ee_mk bs _ (by decide)
    · exact end_ee h
  · split at h
    · split at h
      · injection h with h; rw [← h]; exact ee_mk bs _ (by decide)
      · exact put_ee h
    · split at h
      · split at h
        · injection h with h; rw [← h]; exact ee_mk bs _ (by decide)
        · exact join_ee h
      · split at h
        · split at h
          · injection h with h; rw [← h]; exact ee_mk bs _ (by decide)
          · exact take_ee h
        · injection h with h; rw [← h]; exact ee_mk bs _ (by decide)
theorem run_ee {bs : List Nat} {f : Int × Int} : ∀ (n li la ha : Nat) (vs : List hVr) (q : List Nat), e_run bs n li la ha vs q = .error f → Ee bs f
  | 0, _, _, _, _, _, h => by unfold e_run at h; cases h
  | n + 1, li, la, ha, vs, q, h => by
    unfold e_run at h
    split at h
    · cases h
    · split at h
      · split at h
        · rename_i f1 h1
          injection h with h; rw [← h]; exact plan_ee h1
        · exact run_ee n _ _ _ _ _ h
      · split at h
        · rename_i f1 h1
          injection h with h; rw [← h]; exact ver_ee h1
        · exact run_ee n _ _ _ _ _ h
/-- what holds between calls -/
def AW (S : hS) : Prop := AV S ∧ -1 ≤ (s_ff S).2 ∧ (s_ff S).2 ≤ 600
def Res (f g : hMem → hRs) (r : Nat) (m : hMem) : Prop := ∃ v m1 m2 S' r', f m = some (v, m1) ∧ g m1 = some (v, m2) ∧ hv_R32 v ∧ AW S' ∧ CI S' r' m2 ∧ RI S' m2 ∧ r' ≤ r + 2
theorem CI.eq {S : hS} {r : Nat} {m m' : hMem} (h : CI S r m) (e : ∀ k, k < 61 → k ≠ 23 → k ≠ 24 → k ≠ 25 → m' k = m k) : CI S r m' := by
  obtain ⟨i1, i2, i3, i4, ⟨R0, R1, i5⟩, i6, i7, i8, i9, i10, i11⟩ := h
  refine ⟨by rw [e 0 (by omega) (by omega) (by omega) (by omega)]; exact i1, by rw [e 0 (by omega) (by omega) (by omega) (by omega)]; exact i2, by rw [e 0 (by omega) (by omega) (by omega) (by omega)]; exact i3, by rw [e 0 (by omega) (by omega) (by omega) (by omega)]; exact i4, ⟨R0, R1, i5.eq (fun k k1 k2 k3 => e k (by omega) (by omega) (by omega) (by omega))⟩, i6.eq (e 1 (by omega) (by omega) (by omega) (by omega)) (e 2 (by omega) (by omega) (by omega) (by omega)), by rw [e 3 (by omega) (by omega) (by omega) (by omega)]; exact i7, by rw [e 3 (by omega) (by omega) (by omega) (by omega)]; exact i8, i9.eq (e 10 (by omega) (by omega) (by omega) (by omega)), by rw [e 58 (by omega) (by omega) (by omega) (by omega)]; exact i10, fun c hc => by rw [e 59 (by omega) (by omega) (by omega) (by omega)]; exact i11 c hc⟩
theorem CI.fr {S : hS} {r : Nat} {m m' : hMem} (h : CI S r m) (f : FR m m') : CI S r m' := h.eq (fun k hk _ _ _ => f k (by omega))
theorem RI.fc {S : hS} {m m' : hMem} (h : RI S m) (f : FC m m') : RI S m' := h.eq (f 66 (by omega)) (f 68 (by omega)) (fun j _ => by rw [f 65 (by omega)])
theorem ask {S : hS} {r : Nat} {m : hMem} {f g : hMem → hRs} {v : Int} (hA : AW S) (hR : RI S m) (hf : ∃ m1 r', f m = some (v, m1) ∧ CI S r' m1 ∧ FC m m1 ∧ r' ≤ r + 2) (hg : ∀ m, RI S m → ∃ m2, g m = some (v, m2) ∧ FA m m2) (hv : hv_R32 v) : Res f g r m := by
  obtain ⟨m1, r', f1, f2, f3, f4⟩ := hf
  obtain ⟨m2, g1, g2⟩ := hg m1 (hR.fc f3)
  exact ⟨v, m1, m2, S, r', f1, g1, hv, hA, f2.fr g2.fr, g2.ri (hR.fc f3), f4⟩
section
variable {S : hS} {r : Nat} {m : hMem}
/-- the class answers and changes nothing -/
theorem same_c {f : hMem → hRs} {v : Int} (hC : CI S r m) (h : f m = some (v, m)) : ∃ m1 r', f m = some (v, m1) ∧ CI S r' m1 ∧ FC m m1 ∧ r' ≤ r + 2 := ⟨m, r, h, hC, FC.refl m, by omega⟩
theorem same_r {g : hMem → hRs} {v : Int} (h : ∀ m, RI S m → g m = some (v, m)) : ∀ m, RI S m → ∃ m2, g m = some (v, m2) ∧ FA m m2 := fun m hm => ⟨m, h m hm, FA.refl m⟩
theorem ci_vs (hC : CI S r m) : f_X6_versions m = some (((s_vs S).length : Int), m) := by
  obtain ⟨-, -, -, -, ⟨R0, R1, i5⟩, -⟩ := hC
  unfold f_X6_versions
  rw [i5.2.1.1]
  rfl
theorem c_has (hA : AW S) (hC : CI S r m) {x : Int} (hx : hv_R32 x) : f_X10_has x m = some (if 0 ≤ x ∧ x < ((s_vs S).length : Int) then 1 else 0, m) := by
  have h30 := hA.1.1.1
  unfold f_X10_has
  by_cases c0 : x < 0
  · rw [hp_lt_t hx (by decide) c0, if_neg (by omega), hp_zr0]
  · rw [hp_lt_f hx (by decide) (by omega), ci_vs hC, hp_b]
    by_cases c1 : x < ((s_vs S).length : Int)
    · rw [hp_lt_t hx (by omega) c1, if_pos ⟨by omega, c1⟩, hp_zr1]
    · rw [hp_lt_f hx (by omega) (by omega), if_neg (by omega), hp_zr0]
/-- a call whose first argument is no version -/
theorem c_no (hA : AW S) (hC : CI S r m) {x : Int} (hx : hv_R32 x) (h : ¬ (0 ≤ x ∧ x < ((s_vs S).length : Int))) {F : hMem → hRs} {D : hRs} : hv_b (f_X10_has x m) (fun r1 m2 => hv_eq r1 0 D (F m2)) = D := by
  rw [c_has hA hC hx, hp_b, if_neg h, hp_eq_t (by decide) (by decide) rfl]
theorem c_yes (hA : AW S) (hC : CI S r m) {x : Int} (hx : hv_R32 x) (h : 0 ≤ x ∧ x < ((s_vs S).length : Int)) {F D : hMem → hRs} : hv_b (f_X10_has x m) (fun r1 m2 => hv_eq r1 0 (D m2) (F m2)) = F m := by
  rw [c_has hA hC hx, hp_b, if_pos h, hp_eq_f (by decide) (by decide) (by decide)]
theorem r_yes (hA : AW S) (h : RI S m) {x : Int} (hx : hv_R32 x) (hv : 0 ≤ x ∧ x < ((s_vs S).length : Int)) {F D : hMem → hRs} : hv_b (f_X11_isVersion x m) (fun r1 m2 => hv_eq r1 0 (D m2) (F m2)) = F m := by
  rw [r_isV hA.1 h hx, hp_b, if_pos hv, hp_eq_f (by decide) (by decide) (by decide)]
theorem c_not (hA : AW S) (hC : CI S r m) {x : Int} (hx : hv_R32 x) (h : ¬ (0 ≤ x ∧ x < ((s_vs S).length : Int))) {F D : hMem → hRs} : hv_b (f_X10_has x m) (fun r1 m2 => hv_eq r1 0 (D m2) (F m2)) = D m := by
  rw [c_has hA hC hx, hp_b, if_neg h, hp_eq_t (by decide) (by decide) rfl]
theorem r_not (hA : AW S) (h : RI S m) {x : Int} (hx : hv_R32 x) (hv : ¬ (0 ≤ x ∧ x < ((s_vs S).length : Int))) {F D : hMem → hRs} : hv_b (f_X11_isVersion x m) (fun r1 m2 => hv_eq r1 0 (D m2) (F m2)) = D m := by
  rw [r_isV hA.1 h hx, hp_b, if_neg hv, hp_eq_t (by decide) (by decide) rfl]
theorem hp_is {p q b : Nat} (hb : b = p ∨ b = q) (hpq : p ≠ q) {f : Nat → hRs} : hv_is p q (b : Int) f = f b := by
  unfold hv_is
  rcases hb with e | e
  · rw [if_pos (by omega), e]
  · rw [if_neg (by omega), if_pos (by omega), e]
/-- the heaps by the law -/
theorem ci_heaps (hA : AW S) (hC : CI S r m) : ∃ (b : Nat) (Rs : Nat → Nat), (b = 26 ∨ b = 42) ∧ f_X10_heaps m = some ((b : Int), m) ∧ HR b (s_la S) (s_vs S) Rs m := by
  have hl := hA.1.2.1
  obtain ⟨i1, -, -, -, ⟨R0, R1, i5⟩, -⟩ := hC
  obtain ⟨-, -, -, h0, h1⟩ := i5
  by_cases c : s_la S = 1
  · refine ⟨42, R1, Or.inr rfl, ?_, by rw [c]; exact h1⟩
    unfold f_X10_heaps
    rw [i1, hp_eq_t (by omega) (by decide) (by omega)]
    rfl
  · have c0 : s_la S = 0 := by omega
    refine ⟨26, R0, Or.inl rfl, ?_, by rw [c0]; exact h0⟩
    unfold f_X10_heaps
    rw [i1, hp_eq_f (by omega) (by decide) (by omega)]
    rfl
theorem ci_bag (hC : CI S r m) {j : Nat} (hj : j < (s_vs S).length) : Bg 20 m j (bag (s_vs S) j) := by
  obtain ⟨-, -, -, -, ⟨R0, R1, i5⟩, -⟩ := hC
  exact i5.2.2.1 j hj
theorem ci_jobs (hC : CI S r m) : JR (s_vs S) m := by
  obtain ⟨-, -, -, -, ⟨R0, R1, i5⟩, -⟩ := hC
  exact i5.1
theorem ci_story (hC : CI S r m) : SR (s_vs S) m := by
  obtain ⟨-, -, -, -, ⟨R0, R1, i5⟩, -⟩ := hC
  exact i5.2.1
/-- the least job of a heap -/
theorem r_leastOf {law : Nat} {B : hA} {vs : List hVr} {G : hG} (hw : Wf law B) {m : hMem} (h : Rel B vs G m) {q : Int} {a : Nat} {l : List Nat} (hr : Hp G q a) (hT : Tb B a l) (hs : So l) : f_X11_leastOf q m = some ((if l = [] then -1 else ((l.getD 0 0 % 30 : Nat) : Int)), m) := by
  rcases hr with ⟨a0, q0⟩ | ⟨i, qi, gi⟩
  · rw [if_pos ((hT.zero hw).mp a0), q0]
    unfold f_X11_leastOf
    rw [hp_lt_t (by decide) (by decide) (by decide)]
    rfl
  · obtain ⟨a0, al, ad, a69, -⟩ := h.2.2.2.2.2.2.1 i a gi
    have i8 := h.h8 gi
    have hh := (heap_head hw (hl_one a0 al ad) (hT.perm hw) hs).1
    cases l with
    | nil => simp at hh
    | cons t l =>
      have e : t = tn B a := by simpa using hh
      rw [if_neg (by simp), qi]
      unfold f_X11_leastOf
      rw [hp_lt_f (by omega) (by decide) (by omega), hp_ald (by omega) (by omega), Int.toNat_natCast, a69, ← e]
      rfl
end
