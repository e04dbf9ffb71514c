/-! pure part: how the functions run -/
theorem hp_lt_t {a b : Int} {A B : hRs} (ha : hv_R32 a) (hb : hv_R32 b) (h : a < b) : hv_lt a b A B = A := by rw [hv_lt, if_pos ⟨ha, hb⟩, if_pos h]
theorem hp_lt_f {a b : Int} {A B : hRs} (ha : hv_R32 a) (hb : hv_R32 b) (h : b ≤ a) : hv_lt a b A B = B := by rw [hv_lt, if_pos ⟨ha, hb⟩, if_neg (by omega)]
theorem hp_eq_t {a b : Int} {A B : hRs} (ha : hv_R32 a) (hb : hv_R32 b) (h : a = b) : hv_eq a b A B = A := by rw [hv_eq, if_pos ⟨ha, hb⟩, if_pos h]
theorem hp_eq_f {a b : Int} {A B : hRs} (ha : hv_R32 a) (hb : hv_R32 b) (h : a < b ∨ b < a) : hv_eq a b A B = B := by rw [hv_eq, if_pos ⟨ha, hb⟩, if_neg (by omega)]
theorem hp_ald {m : hMem} {k n : Nat} {i : Int} {f : Int → hRs} (h0 : 0 ≤ i) (h1 : i < (n : Int)) : hv_ald m k n i f = f (m k i.toNat) := by rw [hv_ald, if_pos ⟨h0, h1⟩]
theorem hp_ast {m : hMem} {k n : Nat} {i v : Int} {f : hMem → hRs} (h0 : 0 ≤ i) (h1 : i < (n : Int)) : hv_ast m k n i v f = f (hv_up m k i.toNat v) := by rw [hv_ast, if_pos ⟨h0, h1⟩]
theorem hp_b {r : Int} {m : hMem} {f : Int → hMem → hRs} : hv_b (some (r, m)) f = f r m := rfl
theorem hp_rg {a : Int} {f : hRs} (h : hv_R32 a) : hv_rg a f = f := by rw [hv_rg, if_pos h]
theorem hp_zr0 {m : hMem} : hv_zr 0 m = some (0, m) := rfl
theorem hp_zr1 {m : hMem} : hv_zr 1 m = some (1, m) := rfl
theorem hp_up_same (m : hMem) (k j : Nat) (v : Int) : hv_up m k j v k j = v := by simp [hv_up]
theorem hp_up_k (m : hMem) {k k' : Nat} (j j' : Nat) (v : Int) (h : k' ≠ k) : hv_up m k j v k' j' = m k' j' := by simp [hv_up, h]
theorem hp_up_j (m : hMem) (k : Nat) {j j' : Nat} (v : Int) (h : j' ≠ j) : hv_up m k j v k j' = m k j' := by simp [hv_up, h]
theorem hp_up_kk (m : hMem) {k k' : Nat} (j : Nat) (v : Int) (h : k' ≠ k) : hv_up m k j v k' = m k' := by funext j'; exact hp_up_k m j j' v h
theorem hp_set {v : Int} {f : Int → hRs} : hv_set v f = f v := by
  have h : ∀ w, w = v → hv_set v f = f w := fun w e => by rw [e]; rfl
  exact h v rfl
theorem hp_put {m : hMem} {k j : Nat} {v : Int} {f : hMem → hRs} : hv_put m k j v f = f (hv_up m k j v) := by
  have h : ∀ w, w = v → hv_put m k j v f = f (hv_up m k j w) := fun w e => by rw [e]; rfl
  exact h v rfl
/-- the function answers, with this -/
def hp_wp (t : hRs) (P : Int → hMem → Prop) : Prop := ∃ r m, t = some (r, m) ∧ P r m
theorem hp_w_ret {r : Int} {m : hMem} {P : Int → hMem → Prop} (h : P r m) : hp_wp (hv_ret r m) P := ⟨r, m, rfl, h⟩
theorem hp_w_some {r : Int} {m : hMem} {P : Int → hMem → Prop} (h : P r m) : hp_wp (some (r, m)) P := ⟨r, m, rfl, h⟩
theorem hp_w_b {t : hRs} {f : Int → hMem → hRs} {P Q : Int → hMem → Prop} (h : hp_wp t Q) (k : ∀ r m, Q r m → hp_wp (f r m) P) : hp_wp (hv_b t f) P := by
  obtain ⟨r, m, rfl, hq⟩ := h
  exact k r m hq
theorem hp_w_eq {t t' : hRs} {P : Int → hMem → Prop} (e : t = t') (h : hp_wp t' P) : hp_wp t P := e ▸ h
theorem hp_w_mono {t : hRs} {P Q : Int → hMem → Prop} (h : hp_wp t Q) (k : ∀ r m, Q r m → P r m) : hp_wp t P := by
  obtain ⟨r, m, e, hq⟩ := h
  exact ⟨r, m, e, k r m hq⟩
theorem hp_w_be {t : hRs} {f : Int → hMem → hRs} {P : Int → hMem → Prop} {r : Int} {m : hMem} (e : t = some (r, m)) (k : hp_wp (f r m) P) : hp_wp (hv_b t f) P := by
  rw [e]; exact k
theorem hp_w_lt {a b : Int} {A B : hRs} {P : Int → hMem → Prop} (ha : hv_R32 a) (hb : hv_R32 b) (h1 : a < b → hp_wp A P) (h2 : b ≤ a → hp_wp B P) : hp_wp (hv_lt a b A B) P := by
  by_cases h : a < b
  · rw [hp_lt_t ha hb h]; exact h1 h
  · rw [hp_lt_f ha hb (by omega)]; exact h2 (by omega)
theorem hp_w_e {a b : Int} {A B : hRs} {P : Int → hMem → Prop} (ha : hv_R32 a) (hb : hv_R32 b) (h1 : a = b → hp_wp A P) (h2 : a ≠ b → hp_wp B P) : hp_wp (hv_eq a b A B) P := by
  by_cases h : a = b
  · rw [hp_eq_t ha hb h]; exact h1 h
  · rw [hp_eq_f ha hb (by omega)]; exact h2 h
/-- class: at, set -/
theorem fe_at {k n : Nat} {i : Int} {m : hMem} (hi : hv_R32 i) (hn : n ≤ 2147483647) : f_X10_at k n i m = some (if 0 ≤ i ∧ i < (n : Int) then m k i.toNat else 0, m) := by
  unfold f_X10_at
  by_cases h0 : i < 0
  · rw [hp_lt_t hi (by decide) h0, if_neg (by omega)]; rfl
  · rw [hp_lt_f hi (by decide) (by omega)]
    by_cases h1 : i < (n : Int)
    · rw [hp_lt_t hi (by constructor <;> omega) h1, hp_ald (by omega) h1, if_pos ⟨by omega, h1⟩]; rfl
    · rw [hp_lt_f hi (by constructor <;> omega) (by omega), if_neg (by omega)]; rfl
theorem fe_at' {k n : Nat} {i : Int} {m : hMem} (h0 : 0 ≤ i) (h1 : i < (n : Int)) (hn : n ≤ 2147483647) : f_X10_at k n i m = some (m k i.toNat, m) := by
  rw [fe_at (by constructor <;> omega) hn, if_pos ⟨h0, h1⟩]
theorem fe_set {k n : Nat} {i v : Int} {m : hMem} (h0 : 0 ≤ i) (h1 : i < (n : Int)) (hn : n ≤ 2147483647) : f_X10_set k n i v m = some (0, hv_up m k i.toNat v) := by
  unfold f_X10_set
  rw [hp_lt_f (by constructor <;> omega) (by decide) (by omega), hp_lt_t (by constructor <;> omega) (by constructor <;> omega) h1, hp_ast h0 h1]
  rfl
theorem fe_set_out {k n : Nat} {i v : Int} {m : hMem} (hi : hv_R32 i) (h1 : (n : Int) ≤ i) (hn : n ≤ 2147483647) : f_X10_set k n i v m = some (0, m) := by
  unfold f_X10_set
  rw [hp_lt_f hi (by decide) (by omega), hp_lt_f hi (by constructor <;> omega) h1]
  rfl
