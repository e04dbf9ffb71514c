/-! bits -/
theorem hI_bv (a : Nat) : (hv_I (a : Int)).toBitVec = BitVec.ofNat 32 a := by
  unfold hv_I
  show BitVec.ofInt 32 (a : Int) = BitVec.ofNat 32 a
  exact BitVec.ofInt_natCast 32 a
theorem bv_toInt {x : BitVec 32} (h : x.toNat < 2147483648) : x.toInt = (x.toNat : Int) := BitVec.toInt_eq_toNat_of_lt (by omega)
theorem hv_or_n {a b : Nat} (ha : a < 2 ^ 30) (hb : b < 2 ^ 30) : hv_or (a : Int) (b : Int) = ((a ||| b : Nat) : Int) := by
  unfold hv_or
  have e : (hv_I (a : Int) ||| hv_I (b : Int)).toInt = (BitVec.ofNat 32 a ||| BitVec.ofNat 32 b).toInt := by
    rw [← hI_bv, ← hI_bv]; rfl
  have hlt : a ||| b < 2 ^ 30 := Nat.or_lt_two_pow ha hb
  have hn : (BitVec.ofNat 32 a ||| BitVec.ofNat 32 b).toNat = a ||| b := by
    rw [BitVec.toNat_or, BitVec.toNat_ofNat, BitVec.toNat_ofNat, Nat.mod_eq_of_lt (by omega), Nat.mod_eq_of_lt (by omega)]
  rw [e, bv_toInt (by rw [hn]; omega), hn]
theorem hv_and_n {a b : Nat} (ha : a < 2 ^ 31) (hb : b < 2 ^ 31) : hv_and (a : Int) (b : Int) = ((a &&& b : Nat) : Int) := by
  unfold hv_and
  have e : (hv_I (a : Int) &&& hv_I (b : Int)).toInt = (BitVec.ofNat 32 a &&& BitVec.ofNat 32 b).toInt := by
    rw [← hI_bv, ← hI_bv]; rfl
  have hlt : a &&& b ≤ a := Nat.and_le_left
  have hn : (BitVec.ofNat 32 a &&& BitVec.ofNat 32 b).toNat = a &&& b := by
    rw [BitVec.toNat_and, BitVec.toNat_ofNat, BitVec.toNat_ofNat, Nat.mod_eq_of_lt (by omega), Nat.mod_eq_of_lt (by omega)]
  rw [e, bv_toInt (by rw [hn]; omega), hn]
theorem hv_shl_n : ∀ j : Nat, j < 30 → hv_shl 1 (j : Int) = ((2 ^ j : Nat) : Int) := by decide
/-! of which versions a version was made, as bits -/
def r_step (Rt : List Nat) (v : hVr) : Nat := (if v_how v = 0 then 0 else Rt.getD (v_of v) 0 ||| 2 ^ v_of v) ||| (if v_how v = 2 then Rt.getD (v_ot v) 0 ||| 2 ^ v_ot v else 0)
def r_add (Rt : List Nat) (v : hVr) : List Nat := Rt ++ [r_step Rt v]
def r_all (vs : List hVr) : List Nat := vs.foldl r_add []
theorem r_snoc (vs : List hVr) (v : hVr) : r_all (vs ++ [v]) = r_all vs ++ [r_step (r_all vs) v] := by simp [r_all, List.foldl_append, r_add]
theorem ov_lt {vs : List hVr} {v : hVr} (h : Ov vs v) : (v_how v ≠ 0 → v_of v < vs.length) ∧ (v_how v = 2 → v_ot v < vs.length) ∧ v_how v ≤ 3 := by
  rcases h with h0 | ⟨h1, ho1, -⟩ | ⟨h2, ho1, ho2, -⟩ | ⟨h3, ho1, -⟩
  · exact ⟨fun h => by omega, fun h => by omega, by omega⟩
  · exact ⟨fun _ => ho1, fun h => by omega, by omega⟩
  · exact ⟨fun _ => ho1, fun _ => ho2, by omega⟩
  · exact ⟨fun _ => ho1, fun h => by omega, by omega⟩
theorem or_lt {a b n : Nat} (ha : a < 2 ^ n) (hb : b < 2 ^ n) : a ||| b < 2 ^ n := Nat.or_lt_two_pow ha hb
theorem pow_lt_pow {a b : Nat} (h : a < b) : 2 ^ a < 2 ^ b := Nat.pow_lt_pow_right (by omega) h
theorem r_ok (vs : List hVr) : Os vs → (r_all vs).length = vs.length ∧ ∀ j, j < vs.length → (r_all vs).getD j 0 < 2 ^ j := by
  refine snoc_ind (P := fun vs => Os vs → (r_all vs).length = vs.length ∧ ∀ j, j < vs.length → (r_all vs).getD j 0 < 2 ^ j) ?_ ?_ vs
  · intro _
    exact ⟨rfl, fun j hj => by simp at hj⟩
  · intro vs v ih hos
    obtain ⟨ho, h30, hv⟩ := os_snoc.mp hos
    obtain ⟨h1, h2⟩ := ih ho
    rw [r_snoc]
    refine ⟨by rw [List.length_append, List.length_append, h1]; rfl, fun j hj => ?_⟩
    rw [List.length_append] at hj
    have hj : j < vs.length + 1 := hj
    by_cases c : j < vs.length
    · rw [getD_app _ _ _ (by omega)]; exact h2 j c
    · have ej : j = vs.length := by omega
      have e : (r_all vs ++ [r_step (r_all vs) v]).getD j 0 = r_step (r_all vs) v := by rw [ej, ← h1]; exact getD_snoc _ _ _
      rw [e, ej]
      obtain ⟨l1, l2, -⟩ := ov_lt hv
      have up : ∀ i, i < vs.length → (r_all vs).getD i 0 ||| 2 ^ i < 2 ^ vs.length := fun i hi => or_lt (Nat.lt_trans (h2 i hi) (pow_lt_pow hi)) (pow_lt_pow hi)
      unfold r_step
      refine or_lt ?_ ?_
      · split
        · exact Nat.two_pow_pos _
        · rename_i h; exact up _ (l1 h)
      · split
        · rename_i h; exact up _ (l2 h)
        · exact Nat.two_pow_pos _
/-! the class's jobs and its story -/
def JR (vs : List hVr) (m : hMem) : Prop := m 11 2 = (nput vs : Int) ∧ ∀ j k c : Nat, (jl vs)[j]? = some (k, c) → m 12 j = (k : Int) ∧ m 13 j = (c : Int)
/-- the job that was put or taken -/
def v_job (vs : List hVr) (v : hVr) : Int := if v_how v = 1 then ((v_tu v % 30 : Nat) : Int) else if v_how v = 3 then ((((b_all 99 vs).getD (v_of v) []).getD 0 0 % 30 : Nat) : Int) else -1
def Sv (vs : List hVr) (j : Nat) (v : hVr) (m : hMem) : Prop := m 15 j = (v_how v : Int) ∧ m 16 j = (if v_how v = 0 then -1 else (v_of v : Int)) ∧ m 17 j = (if v_how v = 2 then (v_ot v : Int) else -1) ∧ m 18 j = v_job (vs.take j) v
def SR (vs : List hVr) (m : hMem) : Prop := m 14 5 = (vs.length : Int) ∧ (∀ j v, vs[j]? = some v → Sv vs j v m) ∧ ∀ j, j < vs.length → m 19 j = ((r_all vs).getD j 0 : Int)
theorem jl_get {vs : List hVr} {j : Nat} (h : j < nput vs) : ∃ k c, (jl vs)[j]? = some (k, c) := by
  rw [← jl_len] at h
  exact ⟨_, _, List.getElem?_eq_getElem h⟩
theorem j_turn {vs : List hVr} {m : hMem} (h : JR vs m) (ho : Os vs) {j k c : Nat} (hj : (jl vs)[j]? = some (k, c)) : f_X3_turnOf (j : Int) m = some (((k * 30 + j : Nat) : Int), m) ∧ f_X3_keyOf (j : Int) m = some ((k : Int), m) ∧ f_X3_timeOf (j : Int) m = some ((c : Int), m) := by
  have h30 := ho.1
  have nn := nput_le vs
  have hl : j < nput vs := by
    rw [← jl_len]
    rcases Nat.lt_or_ge j (jl vs).length with c | c
    · exact c
    · rw [List.getElem?_eq_none c] at hj; cases hj
  obtain ⟨e1, e2⟩ := h.2 j k c hj
  have q : f_X3_keyOf (j : Int) m = some ((k : Int), m) := by
    unfold f_X3_keyOf
    rw [fe_at' (by omega) (by omega) (by omega), hp_b, Int.toNat_natCast, e1]; rfl
  refine ⟨?_, q, ?_⟩
  · unfold f_X3_turnOf
    rw [q, hp_b]
    rfl
  · unfold f_X3_timeOf
    rw [fe_at' (by omega) (by omega) (by omega), hp_b, Int.toNat_natCast, e2]; rfl
theorem j_turn1 {m : hMem} : f_X3_turnOf (-1) m = some (-1, m) := by
  unfold f_X3_turnOf f_X3_keyOf
  rw [fe_at (by decide) (by omega), hp_b]
  rfl
theorem j_add {vs : List hVr} {v : hVr} {m : hMem} (h : JR vs m) (h30 : vs.length < 30) (h1 : v_how v = 1) {k c : Nat} (ek : v_tu v / 30 = k) (ec : v_ti v = c) : ∃ m', f_X3_add (k : Int) (c : Int) m = some ((nput vs : Int), m') ∧ JR (vs ++ [v]) m' ∧ Fr 11 14 m m' := by
  have nn := nput_le vs
  unfold f_X3_add
  rw [h.1, fe_set (by omega) (by omega) (by omega), hp_b, Int.toNat_natCast, hp_up_k _ _ _ _ (by omega), h.1, fe_set (by omega) (by omega) (by omega), hp_b, Int.toNat_natCast, hp_put]
  have e2 : hv_up (hv_up m 12 (nput vs) (k : Int)) 13 (nput vs) (c : Int) 11 2 = (nput vs : Int) := by rw [hp_up_k _ _ _ _ (by omega), hp_up_k _ _ _ _ (by omega), h.1]
  rw [e2, hp_up_same]
  refine ⟨hv_up (hv_up (hv_up m 12 (nput vs) (k : Int)) 13 (nput vs) (c : Int)) 11 2 ((nput vs : Int) + 1), ?_, ⟨?_, fun j k' c' hj => ?_⟩, (((Fr.refl _ _ _).up (by omega)).up (by omega)).up (by omega)⟩
  · rw [show (nput vs : Int) + 1 - 1 = (nput vs : Int) by omega]; rfl
  · rw [hp_up_same, nput_snoc, if_pos h1]; omega
  · rw [jl_snoc, if_pos h1] at hj
    by_cases c1 : j < (jl vs).length
    · rw [List.getElem?_append_left c1] at hj
      rw [jl_len] at c1
      rw [hp_up_k _ _ _ _ (by omega), hp_up_k _ _ _ _ (by omega), hp_up_j _ _ _ (by omega), hp_up_k _ _ _ _ (by omega), hp_up_j _ _ _ (by omega), hp_up_k _ _ _ _ (by omega)]
      exact h.2 j k' c' hj
    · have ej : j = (jl vs).length := by
        rcases Nat.lt_or_ge j ((jl vs).length + 1) with c | c
        · omega
        · rw [List.getElem?_eq_none (by rw [List.length_append]; exact c)] at hj; cases hj
      rw [ej] at hj
      simp at hj
      obtain ⟨z1, z2⟩ := hj
      rw [jl_len] at ej
      rw [ej, hp_up_k _ _ _ _ (by omega), hp_up_k _ _ _ _ (by omega), hp_up_same, hp_up_k _ _ _ _ (by omega), hp_up_same]
      omega
theorem s_roots {vs : List hVr} {m : hMem} (h : ∀ j, j < vs.length → m 19 j = ((r_all vs).getD j 0 : Int)) (ho : Os vs) {j : Nat} (hj : j < vs.length) : f_X6_withRoots (j : Int) m = some ((((r_all vs).getD j 0 ||| 2 ^ j : Nat) : Int), m) := by
  have h30 := ho.1
  have r := (r_ok vs ho).2 j hj
  have p : 2 ^ j < 2 ^ 30 := pow_lt_pow (by omega)
  unfold f_X6_withRoots
  rw [hp_lt_f (by omega) (by decide) (by omega), fe_at' (by omega) (by omega) (by omega), hp_b, Int.toNat_natCast, h j hj, hv_shl_n j (by omega), hv_or_n (by omega) (by omega)]
  rfl
theorem s_roots1 {m : hMem} : f_X6_withRoots (-1) m = some (0, m) := by
  unfold f_X6_withRoots
  rw [hp_lt_t (by decide) (by decide) (by decide)]
  rfl
/-- what the class's grow is called with, over the whole -/
def Gb (v : hVr) (x1 x2 x3 : Int) : Prop := x1 = (v_how v : Int) ∧ x2 = (if v_how v = 0 then -1 else (v_of v : Int)) ∧ x3 = (if v_how v = 2 then (v_ot v : Int) else -1)
theorem s_add {vs : List hVr} {v : hVr} {m : hMem} {x1 x2 x3 : Int} (hos : Os (vs ++ [v])) (h : SR vs m) (gb : Gb v x1 x2 x3) : ∃ m', f_X6_add x1 x2 x3 (v_job vs v) m = some (0, m') ∧ SR (vs ++ [v]) m' ∧ Fr 14 20 m m' := by
  obtain ⟨ho, h30, hv⟩ := os_snoc.mp hos
  obtain ⟨l1, l2, l3⟩ := ov_lt hv
  obtain ⟨g1, g2, g3⟩ := gb
  obtain ⟨h1, h2, h3⟩ := h
  obtain ⟨r1, r2⟩ := r_ok vs ho
  have rn : ∀ i, i < vs.length → (r_all vs).getD i 0 ||| 2 ^ i < 2 ^ 30 := fun i hi => Nat.lt_trans (or_lt (Nat.lt_trans (r2 i hi) (pow_lt_pow hi)) (pow_lt_pow hi)) (pow_lt_pow h30)
  obtain ⟨m4, em4⟩ : ∃ m4 : hMem, m4 = hv_up (hv_up (hv_up (hv_up m 15 vs.length x1) 16 vs.length x2) 17 vs.length x3) 18 vs.length (v_job vs v) := ⟨_, rfl⟩
  have q1 : f_X6_withRoots x2 m4 = some (((if v_how v = 0 then 0 else (r_all vs).getD (v_of v) 0 ||| 2 ^ v_of v : Nat) : Int), m4) := by
    have h19 : ∀ j, j < vs.length → m4 19 j = ((r_all vs).getD j 0 : Int) := fun j hj => by
      rw [em4, hp_up_k _ _ _ _ (by omega), hp_up_k _ _ _ _ (by omega), hp_up_k _ _ _ _ (by omega), hp_up_k _ _ _ _ (by omega)]; exact h3 j hj
    rw [g2]
    by_cases c : v_how v = 0
    · rw [if_pos c, if_pos c]; exact s_roots1
    · rw [if_neg c, if_neg c]; exact s_roots h19 ho (l1 c)
  have q2 : f_X6_withRoots x3 m4 = some (((if v_how v = 2 then (r_all vs).getD (v_ot v) 0 ||| 2 ^ v_ot v else 0 : Nat) : Int), m4) := by
    have h19 : ∀ j, j < vs.length → m4 19 j = ((r_all vs).getD j 0 : Int) := fun j hj => by
      rw [em4, hp_up_k _ _ _ _ (by omega), hp_up_k _ _ _ _ (by omega), hp_up_k _ _ _ _ (by omega), hp_up_k _ _ _ _ (by omega)]; exact h3 j hj
    rw [g3]
    by_cases c : v_how v = 2
    · rw [if_pos c, if_pos c]; exact s_roots h19 ho (l2 c)
    · rw [if_neg c, if_neg c]; exact s_roots1
  have b1 : (if v_how v = 0 then 0 else (r_all vs).getD (v_of v) 0 ||| 2 ^ v_of v : Nat) < 2 ^ 30 := by
    split
    · omega
    · rename_i c; exact rn _ (l1 c)
  have b2 : (if v_how v = 2 then (r_all vs).getD (v_ot v) 0 ||| 2 ^ v_ot v else 0 : Nat) < 2 ^ 30 := by
    split
    · rename_i c; exact rn _ (l2 c)
    · omega
  have e4 : m4 14 5 = (vs.length : Int) := by rw [em4, hp_up_k _ _ _ _ (by omega), hp_up_k _ _ _ _ (by omega), hp_up_k _ _ _ _ (by omega), hp_up_k _ _ _ _ (by omega)]; exact h1
  obtain ⟨m', em'⟩ : ∃ m' : hMem, m' = hv_up (hv_up m4 19 vs.length ((r_step (r_all vs) v : Nat) : Int)) 14 5 ((vs.length : Int) + 1) := ⟨_, rfl⟩
  have hvl : (vs ++ [v]).length = vs.length + 1 := by rw [List.length_append]; rfl
  refine ⟨m', ?_, ⟨?_, fun j u hu => ?_, fun j hj => ?_⟩, ?_⟩
  · have s1 : f_X10_set 15 30 (m 14 5) x1 m = some (0, hv_up m 15 vs.length x1) := by rw [h1, fe_set (by omega) (by omega) (by omega), Int.toNat_natCast]
    have s2 : f_X10_set 16 30 (hv_up m 15 vs.length x1 14 5) x2 (hv_up m 15 vs.length x1) = some (0, hv_up (hv_up m 15 vs.length x1) 16 vs.length x2) := by rw [hp_up_k _ _ _ _ (by omega), h1, fe_set (by omega) (by omega) (by omega), Int.toNat_natCast]
    have s3 : f_X10_set 17 30 (hv_up (hv_up m 15 vs.length x1) 16 vs.length x2 14 5) x3 (hv_up (hv_up m 15 vs.length x1) 16 vs.length x2) = some (0, hv_up (hv_up (hv_up m 15 vs.length x1) 16 vs.length x2) 17 vs.length x3) := by rw [hp_up_k _ _ _ _ (by omega), hp_up_k _ _ _ _ (by omega), h1, fe_set (by omega) (by omega) (by omega), Int.toNat_natCast]
    have s4 : f_X10_set 18 30 (hv_up (hv_up (hv_up m 15 vs.length x1) 16 vs.length x2) 17 vs.length x3 14 5) (v_job vs v) (hv_up (hv_up (hv_up m 15 vs.length x1) 16 vs.length x2) 17 vs.length x3) = some (0, m4) := by rw [hp_up_k _ _ _ _ (by omega), hp_up_k _ _ _ _ (by omega), hp_up_k _ _ _ _ (by omega), h1, fe_set (by omega) (by omega) (by omega), Int.toNat_natCast, em4]
    unfold f_X6_add
    rw [s1, hp_b, s2, hp_b, s3, hp_b, s4, hp_b, q1, hp_b, q2, hp_b, e4, hv_or_n b1 b2, fe_set (by omega) (by omega) (by omega), hp_b, Int.toNat_natCast, hp_put, hp_up_k _ _ _ _ (by omega), e4, em']
    rfl
  · rw [em', hp_up_same, hvl]; omega
  · unfold Sv
    by_cases c : j < vs.length
    · rw [List.getElem?_append_left c] at hu
      rw [List.take_append_of_le_length (by omega), em', em4]
      simp (disch := omega) only [hp_up_k, hp_up_j]
      exact h2 j u hu
    · have ej : j = vs.length := by
        rcases Nat.lt_or_ge j (vs.length + 1) with c | c
        · omega
        · rw [List.getElem?_eq_none (by omega)] at hu; cases hu
      subst ej
      simp at hu
      subst hu
      rw [List.take_append_of_le_length (by omega), List.take_length, em', em4]
      simp (disch := omega) only [hp_up_k, hp_up_same]
      exact ⟨g1, g2, g3, trivial⟩
  · rw [hvl] at hj
    rw [r_snoc, em', hp_up_k _ _ _ _ (by omega)]
    by_cases c : j < vs.length
    · rw [hp_up_j _ _ _ (by omega), getD_app _ _ _ (by omega), em4, hp_up_k _ _ _ _ (by omega), hp_up_k _ _ _ _ (by omega), hp_up_k _ _ _ _ (by omega), hp_up_k _ _ _ _ (by omega)]
      exact h3 j c
    · have ej : j = vs.length := by omega
      have e : (r_all vs ++ [r_step (r_all vs) v]).getD j 0 = r_step (r_all vs) v := by rw [ej, ← r1]; exact getD_snoc _ _ _
      rw [e, ej, hp_up_same]
  · rw [em', em4]
    exact ((((((Fr.refl _ _ _).up (by omega)).up (by omega)).up (by omega)).up (by omega)).up (by omega)).up (by omega)
