/-! bits: of which versions a version was made -/
theorem sh_amt : ∀ j : Nat, j < 30 → ((hv_I (j : Int) &&& 31).toBitVec.smod 32).toNat = j := by decide
theorem hv_shr_n {a j : Nat} (ha : a < 2 ^ 31) (hj : j < 30) : hv_shr (a : Int) (j : Int) = ((a >>> j : Nat) : Int) := by
  unfold hv_shr
  have e : (hv_I (a : Int) >>> (hv_I (j : Int) &&& 31)).toInt = (BitVec.sshiftRight' (hv_I (a : Int)).toBitVec ((hv_I (j : Int) &&& 31).toBitVec.smod 32)).toInt := rfl
  rw [e, BitVec.toInt_sshiftRight', sh_amt j hj, hI_bv, bv_toInt (by rw [BitVec.toNat_ofNat]; omega), BitVec.toNat_ofNat, Nat.mod_eq_of_lt (by omega)]
  rfl
theorem bit_and1 (y : Nat) : y &&& 1 = y % 2 := Nat.and_one_is_mod y
/-- a bit that is looked at -/
theorem bit_at {a j : Nat} (ha : a < 2 ^ 30) (hj : j < 30) : hv_and (hv_shr (a : Int) (j : Int)) 1 = if a.testBit j then 1 else 0 := by
  have hs : a >>> j < 2 ^ 31 := by
    rw [Nat.shiftRight_eq_div_pow]
    exact Nat.lt_of_le_of_lt (Nat.div_le_self _ _) (by omega)
  rw [hv_shr_n (by omega) hj, show (1 : Int) = ((1 : Nat) : Int) from rfl, hv_and_n hs (by decide), bit_and1, Nat.shiftRight_eq_div_pow, Nat.testBit_eq_decide_div_mod_eq]
  rcases Nat.mod_two_eq_zero_or_one (a / 2 ^ j) with e | e
  · rw [e, if_neg (by simp)]; rfl
  · rw [e, if_pos (by simp)]
theorem bit_mask {a j : Nat} (ha : a < 2 ^ 30) (hj : j < 30) : hv_and (a : Int) (hv_shl 1 (j : Int)) = 0 ↔ a.testBit j = false := by
  have hp : 2 ^ j < 2 ^ 31 := pow_lt_pow (by omega)
  rw [hv_shl_n j hj, hv_and_n (by omega) hp]
  constructor
  · intro h
    have h0 : a &&& 2 ^ j = 0 := by omega
    have := congrArg (fun x => Nat.testBit x j) h0
    simpa [Nat.testBit_and, Nat.testBit_two_pow] using this
  · intro h
    have : a &&& 2 ^ j = 0 := by
      apply Nat.eq_of_testBit_eq
      intro i
      rw [Nat.testBit_and, Nat.testBit_two_pow]
      by_cases c : j = i
      · rw [← c, h]; simp
      · simp [c]
    omega
section
variable {vs : List hVr} {m : hMem}
/-- what a version's bits are -/
theorem r_bits {vs : List hVr} (ho : Os vs) {j : Nat} {v : hVr} (hv : vs[j]? = some v) (x : Nat) : ((r_all vs).getD j 0).testBit x = true ↔ (v_how v ≠ 0 ∧ (x = v_of v ∨ ((r_all vs).getD (v_of v) 0).testBit x = true)) ∨ (v_how v = 2 ∧ (x = v_ot v ∨ ((r_all vs).getD (v_ot v) 0).testBit x = true)) := by
  have hl : j < vs.length := by
    rcases Nat.lt_or_ge j vs.length with c | c
    · exact c
    · rw [List.getElem?_eq_none c] at hv; cases hv
  have et : vs.take (j + 1) = vs.take j ++ [v] := by rw [List.take_add_one, hv]; rfl
  have hos : Os (vs.take j ++ [v]) := by rw [← et]; exact os_take ho _
  obtain ⟨-, -, hOv⟩ := os_snoc.mp hos
  obtain ⟨l1, l2, l3⟩ := ov_lt hOv
  have tl : (vs.take j).length = j := by rw [List.length_take]; omega
  rw [tl] at l1 l2
  have e1 := r_px vs (j + 1) (by omega) j (by omega)
  rw [et, r_snoc] at e1
  have rl : (r_all (vs.take j)).length = j := by rw [r_len, tl]
  have e2 := getD_snoc (r_all (vs.take j)) (r_step (r_all (vs.take j)) v) 0
  rw [rl] at e2
  rw [← e1, e2]
  unfold r_step
  rw [Nat.testBit_or]
  have tb : ∀ y o : Nat, (y ||| 2 ^ o).testBit x = true ↔ x = o ∨ y.testBit x = true := fun y o => by
    rw [Nat.testBit_or, Nat.testBit_two_pow]
    simp only [Bool.or_eq_true, decide_eq_true_eq]
    constructor
    · rintro (h | h)
      · exact Or.inr h
      · exact Or.inl h.symm
    · rintro (h | h)
      · exact Or.inr h.symm
      · exact Or.inl h
  rw [Bool.or_eq_true]
  refine or_congr ?_ ?_
  · by_cases c : v_how v = 0
    · rw [if_pos c]
      simp [c]
    · rw [if_neg c, tb, r_px vs j (by omega) (v_of v) (l1 c)]
      simp [c]
  · by_cases c : v_how v = 2
    · rw [if_pos c, tb, r_px vs j (by omega) (v_ot v) (l2 c)]
      simp [c]
    · rw [if_neg c]
      simp [c]
theorem r_madeL (ho : Os vs) (hM : RM vs m) : ∀ (k n X : Nat), k ≤ vs.length → k < n → X < 2 ^ 30 → ∃ Y : Nat, L_X11_madeOf_6 n (X : Int) ((k : Int) - 1) m = some ((Y : Int), m) ∧ Y < 2 ^ 30 ∧ ∀ x, Y.testBit x = true ↔ X.testBit x = true ∨ ∃ u, u < k ∧ X.testBit u = true ∧ ((r_all vs).getD u 0).testBit x = true
  | _, 0, _, _, hn, _ => by omega
  | 0, n + 1, X, hk, hn, hX => by
    refine ⟨X, ?_, hX, fun x => ⟨Or.inl, fun h => h.elim id (fun ⟨u, hu, _⟩ => by omega)⟩⟩
    show B_X11_madeOf_6 (L_X11_madeOf_6 n) (X : Int) (((0 : Nat) : Int) - 1) m = _
    unfold B_X11_madeOf_6
    rw [hp_lt_t (by decide) (by decide) (by decide)]
    rfl
  | k + 1, n + 1, X, hk, hn, hX => by
    have h30 := ho.1
    obtain ⟨v, hv⟩ : ∃ v, vs[k]? = some v := ⟨_, List.getElem?_eq_getElem (by omega)⟩
    have rb := r_bits ho hv
    obtain ⟨M1, M2, M3, -⟩ := hM.2.2.1 k v hv
    have et : vs.take (k + 1) = vs.take k ++ [v] := by rw [List.take_add_one, hv]; rfl
    have hos : Os (vs.take k ++ [v]) := by rw [← et]; exact os_take ho _
    obtain ⟨-, -, hOv⟩ := os_snoc.mp hos
    obtain ⟨l1, l2, l3⟩ := ov_lt hOv
    have tl : (vs.take k).length = k := by rw [List.length_take]; omega
    rw [tl] at l1 l2
    have ek : ((k + 1 : Nat) : Int) - 1 = (k : Int) := by omega
    have e6 : ((6 : Int) + (k : Int)).toNat = 6 + k := by omega
    have e36 : ((36 : Int) + (k : Int)).toNat = 36 + k := by omega
    have e66 : ((66 : Int) + (k : Int)).toNat = 66 + k := by omega
    have p30 : ∀ o, o < k → 2 ^ o < 2 ^ 30 := fun o h => pow_lt_pow (by omega)
    rw [ek]
    show ∃ Y : Nat, B_X11_madeOf_6 (L_X11_madeOf_6 n) (X : Int) (k : Int) m = _ ∧ _
    unfold B_X11_madeOf_6 J_X11_madeOf_74
    rw [hp_lt_f (by omega) (by decide) (by omega), bit_at hX (by omega)]
    have ek1 : (k : Int) + (-1) = (k : Int) - 1 := by omega
    rw [ek1]
    by_cases c : X.testBit k = true
    · rw [if_pos c, hp_eq_t (by decide) (by decide) rfl, hp_ald (by omega) (by omega), e6, M1]
      by_cases c0 : v_how v = 0
      · rw [hp_eq_t (by omega) (by decide) (by omega), hp_set]
        obtain ⟨Y, a1, a2, a3⟩ := r_madeL ho hM k n X (by omega) (by omega) hX
        refine ⟨Y, a1, a2, fun x => ?_⟩
        rw [a3 x]
        refine or_congr Iff.rfl ⟨fun ⟨u, h1, h2⟩ => ⟨u, by omega, h2⟩, fun ⟨u, h1, h2, h3⟩ => ?_⟩
        by_cases cu : u = k
        · rw [cu] at h3
          rcases (rb x).mp h3 with h | h
          · exact absurd c0 h.1
          · omega
        · exact ⟨u, by omega, h2, h3⟩
      · have M2 : m 66 (36 + k) = (v_of v : Int) := by rw [M2, if_neg c0]
        have of := l1 c0
        rw [hp_eq_f (by omega) (by decide) (by omega), hp_ald (by omega) (by omega), e36, M2, hp_set, hp_ald (by omega) (by omega), e6, M1, hv_shl_n _ (by omega), hv_or_n hX (p30 _ of)]
        have X1 : X ||| 2 ^ v_of v < 2 ^ 30 := or_lt hX (p30 _ of)
        have t1 : ∀ y, (X ||| 2 ^ v_of v).testBit y = true ↔ X.testBit y = true ∨ y = v_of v := fun y => by
          rw [Nat.testBit_or, Nat.testBit_two_pow]
          simp only [Bool.or_eq_true, decide_eq_true_eq]
          exact or_congr Iff.rfl ⟨Eq.symm, Eq.symm⟩
        by_cases c2 : v_how v = 2
        · have M3 : m 66 (66 + k) = (v_ot v : Int) := by rw [M3, if_pos c2]
          have ot := l2 c2
          rw [hp_eq_t (by omega) (by decide) (by omega), hp_ald (by omega) (by omega), e66, M3, hv_shl_n _ (by omega), hp_set, hp_set, hv_or_n X1 (p30 _ ot)]
          have t2 : ∀ y, (X ||| 2 ^ v_of v ||| 2 ^ v_ot v).testBit y = true ↔ X.testBit y = true ∨ y = v_of v ∨ y = v_ot v := fun y => by
            rw [Nat.testBit_or, Nat.testBit_two_pow]
            simp only [Bool.or_eq_true, decide_eq_true_eq]
            rw [t1 y, or_assoc]
            exact or_congr Iff.rfl (or_congr Iff.rfl ⟨Eq.symm, Eq.symm⟩)
          obtain ⟨Y, a1, a2, a3⟩ := r_madeL ho hM k n (X ||| 2 ^ v_of v ||| 2 ^ v_ot v) (by omega) (by omega) (or_lt X1 (p30 _ ot))
          refine ⟨Y, a1, a2, fun x => ?_⟩
          rw [a3 x, t2 x]
          constructor
          · rintro ((h | h | h) | ⟨u, h1, h2, h3⟩)
            · exact Or.inl h
            · exact Or.inr ⟨k, by omega, c, (rb x).mpr (Or.inl ⟨c0, Or.inl h⟩)⟩
            · exact Or.inr ⟨k, by omega, c, (rb x).mpr (Or.inr ⟨c2, Or.inl h⟩)⟩
            · rcases (t2 u).mp h2 with h | h | h
              · exact Or.inr ⟨u, by omega, h, h3⟩
              · rw [h] at h3
                exact Or.inr ⟨k, by omega, c, (rb x).mpr (Or.inl ⟨c0, Or.inr h3⟩)⟩
              · rw [h] at h3
                exact Or.inr ⟨k, by omega, c, (rb x).mpr (Or.inr ⟨c2, Or.inr h3⟩)⟩
          · rintro (h | ⟨u, h1, h2, h3⟩)
            · exact Or.inl (Or.inl h)
            · by_cases cu : u = k
              · rw [cu] at h3
                rcases (rb x).mp h3 with ⟨_, h | h⟩ | ⟨_, h | h⟩
                · exact Or.inl (Or.inr (Or.inl h))
                · exact Or.inr ⟨v_of v, of, (t2 _).mpr (Or.inr (Or.inl rfl)), h⟩
                · exact Or.inl (Or.inr (Or.inr h))
                · exact Or.inr ⟨v_ot v, ot, (t2 _).mpr (Or.inr (Or.inr rfl)), h⟩
              · exact Or.inr ⟨u, by omega, (t2 u).mpr (Or.inl h2), h3⟩
        · rw [hp_eq_f (by omega) (by decide) (by omega), hp_set, hp_set, show (0 : Int) = ((0 : Nat) : Int) from rfl, hv_or_n X1 (by decide), Nat.or_zero]
          obtain ⟨Y, a1, a2, a3⟩ := r_madeL ho hM k n (X ||| 2 ^ v_of v) (by omega) (by omega) X1
          refine ⟨Y, a1, a2, fun x => ?_⟩
          rw [a3 x, t1 x]
          constructor
          · rintro ((h | h) | ⟨u, h1, h2, h3⟩)
            · exact Or.inl h
            · exact Or.inr ⟨k, by omega, c, (rb x).mpr (Or.inl ⟨c0, Or.inl h⟩)⟩
            · rcases (t1 u).mp h2 with h | h
              · exact Or.inr ⟨u, by omega, h, h3⟩
              · rw [h] at h3
                exact Or.inr ⟨k, by omega, c, (rb x).mpr (Or.inl ⟨c0, Or.inr h3⟩)⟩
          · rintro (h | ⟨u, h1, h2, h3⟩)
            · exact Or.inl (Or.inl h)
            · by_cases cu : u = k
              · rw [cu] at h3
                rcases (rb x).mp h3 with ⟨_, h | h⟩ | ⟨h, _⟩
                · exact Or.inl (Or.inr h)
                · exact Or.inr ⟨v_of v, of, (t1 _).mpr (Or.inr rfl), h⟩
                · exact absurd h c2
              · exact Or.inr ⟨u, by omega, (t1 u).mpr (Or.inl h2), h3⟩
    · rw [if_neg c, hp_eq_f (by decide) (by decide) (by decide), hp_set]
      obtain ⟨Y, a1, a2, a3⟩ := r_madeL ho hM k n X (by omega) (by omega) hX
      refine ⟨Y, a1, a2, fun x => ?_⟩
      rw [a3 x]
      refine or_congr Iff.rfl ⟨fun ⟨u, h1, h2⟩ => ⟨u, by omega, h2⟩, fun ⟨u, h1, h2, h3⟩ => ?_⟩
      by_cases cu : u = k
      · rw [cu] at h2; exact absurd h2 c
      · exact ⟨u, by omega, h2, h3⟩
/-- made of it, or the same -/
def isF (vs : List hVr) (i j : Nat) : Bool := decide (i = j) || ((r_all vs).getD i 0).testBit j
theorem r_isFrom (ho : Os vs) (hM : RM vs m) {i j : Nat} (hi : i < vs.length) (hj : j < vs.length) : f_X11_isFrom (i : Int) (j : Int) m = some (if isF vs i j then 1 else 0, m) := by
  have h30 := ho.1
  have p30 : 2 ^ i < 2 ^ 30 := pow_lt_pow (by omega)
  obtain ⟨Y, a1, a2, a3⟩ := r_madeL ho hM (i + 1) hv_FU (2 ^ i) (by omega) (fu_lt (by omega)) p30
  rw [show ((i + 1 : Nat) : Int) - 1 = (i : Int) by omega] at a1
  have mo : f_X11_madeOf (i : Int) m = some ((Y : Int), m) := by
    unfold f_X11_madeOf
    rw [hp_set, hv_shl_n i (by omega)]
    exact a1
  unfold f_X11_isFrom
  rw [mo, hp_b, bit_at a2 (by omega)]
  have ey : Y.testBit j = isF vs i j := by
    have t := a3 j
    rw [Bool.eq_iff_iff, t]
    unfold isF
    simp only [Bool.or_eq_true, decide_eq_true_eq, Nat.testBit_two_pow]
    constructor
    · rintro (h | ⟨u, h1, h2, h3⟩)
      · exact Or.inl h
      · rw [← h2] at h3; exact Or.inr h3
    · rintro (h | h)
      · exact Or.inl h
      · exact Or.inr ⟨i, by omega, rfl, h⟩
  rw [ey]
  cases isF vs i j with
  | true => rw [if_pos rfl, hp_eq_t (by decide) (by decide) rfl, hp_zr1]
  | false => rw [if_neg (by simp), hp_eq_f (by decide) (by decide) (by decide), hp_zr0]
/-- bits counted -/
def pc (x : Nat) : Nat → Nat
  | 0 => 0
  | n + 1 => pc x n + (if x.testBit n then 1 else 0)
theorem pc_le (x : Nat) : ∀ n, pc x n ≤ n
  | 0 => Nat.le_refl _
  | n + 1 => by
    have := pc_le x n
    show pc x n + _ ≤ _
    split <;> omega
theorem pc_out {x k : Nat} (h : x < 2 ^ k) : ∀ n, pc x (k + n) = pc x k
  | 0 => rfl
  | n + 1 => by
    show pc x (k + n) + (if x.testBit (k + n) then 1 else 0) = _
    rw [pc_out h n, Nat.testBit_lt_two_pow (Nat.lt_of_lt_of_le h (Nat.pow_le_pow_right (by omega) (by omega)))]
    rfl
theorem r_rootsL (ho : Os vs) (hM : RM vs m) {i : Nat} (hi : i < vs.length) : ∀ (d n k s : Nat), k + d = i → d < n → L_X11_roots_15 n (i : Int) ((s + pc ((r_all vs).getD i 0) k : Nat) : Int) (k : Int) m = some (((s + pc ((r_all vs).getD i 0) i : Nat) : Int), m)
  | _, 0, _, _, _, hn => by omega
  | 0, n + 1, k, s, hk, hn => by
    have h30 := ho.1
    have e : k = i := by omega
    subst e
    show B_X11_roots_15 (L_X11_roots_15 n) (k : Int) ((s + pc ((r_all vs).getD k 0) k : Nat) : Int) (k : Int) m = _
    unfold B_X11_roots_15
    rw [hp_lt_f (by omega) (by omega) (by omega)]
    rfl
  | d + 1, n + 1, k, s, hk, hn => by
    have h30 := ho.1
    have g := r_rootsL ho hM hi d n (k + 1) s (by omega) (by omega)
    have g : L_X11_roots_15 n (i : Int) ((s + (pc ((r_all vs).getD i 0) k + (if ((r_all vs).getD i 0).testBit k then 1 else 0)) : Nat) : Int) ((k + 1 : Nat) : Int) m = _ := g
    have ef : isF vs i k = ((r_all vs).getD i 0).testBit k := by unfold isF; rw [show decide (i = k) = false by simp; omega]; rfl
    show B_X11_roots_15 (L_X11_roots_15 n) (i : Int) ((s + pc ((r_all vs).getD i 0) k : Nat) : Int) (k : Int) m = _
    unfold B_X11_roots_15 J_X11_roots_35
    rw [hp_lt_t (by omega) (by omega) (by omega), r_isFrom ho hM hi (by omega), hp_b, ef]
    by_cases c : ((r_all vs).getD i 0).testBit k = true
    · rw [if_pos c] at g ⊢
      rw [hp_eq_f (by decide) (by decide) (by decide), hp_set, hp_set, show ((s + pc ((r_all vs).getD i 0) k : Nat) : Int) + 1 = ((s + (pc ((r_all vs).getD i 0) k + 1) : Nat) : Int) by omega]
      exact g
    · rw [if_neg c] at g ⊢
      rw [hp_eq_t (by decide) (by decide) rfl, hp_set, hp_set, show ((s + pc ((r_all vs).getD i 0) k : Nat) : Int) + 0 = ((s + (pc ((r_all vs).getD i 0) k + 0) : Nat) : Int) by omega]
      exact g
end
/-- the class's way of counting bits -/
theorem and_split (k u v p q : Nat) (hu : u < 2 ^ k) (hp : p < 2 ^ k) : (2 ^ k * v + u) &&& (2 ^ k * q + p) = 2 ^ k * (v &&& q) + (u &&& p) := by
  apply Nat.eq_of_testBit_eq
  intro j
  rw [Nat.testBit_and, Nat.testBit_two_pow_mul_add v hu, Nat.testBit_two_pow_mul_add q hp, Nat.testBit_two_pow_mul_add _ (Nat.and_lt_two_pow _ hp), Nat.testBit_and, Nat.testBit_and]
  split <;> rfl
theorem pc_split (v : Nat) {u : Nat} (hu : u < 2 ^ 8) : ∀ n, pc (2 ^ 8 * v + u) (8 + n) = pc u 8 + pc v n
  | 0 => by
    show pc (2 ^ 8 * v + u) 8 = pc u 8 + 0
    have t : ∀ j, j < 8 → (2 ^ 8 * v + u).testBit j = u.testBit j := fun j hj => by rw [Nat.testBit_two_pow_mul_add v hu, if_pos hj]
    simp only [pc, t 0 (by omega), t 1 (by omega), t 2 (by omega), t 3 (by omega), t 4 (by omega), t 5 (by omega), t 6 (by omega), t 7 (by omega)]
    omega
  | n + 1 => by
    show pc (2 ^ 8 * v + u) (8 + n) + (if (2 ^ 8 * v + u).testBit (8 + n) then 1 else 0) = pc u 8 + (pc v n + (if v.testBit n then 1 else 0))
    have t : (2 ^ 8 * v + u).testBit (8 + n) = v.testBit n := by rw [Nat.testBit_two_pow_mul_add v hu, if_neg (by omega), show 8 + n - 8 = n by omega]
    rw [pc_split v hu n, t, Nat.add_assoc]
theorem hv_ushr_n {a : Nat} (ha : a < 2 ^ 31) : hv_ushr (a : Int) 1 = ((a / 2 : Nat) : Int) ∧ hv_ushr (a : Int) 2 = ((a / 4 : Nat) : Int) ∧ hv_ushr (a : Int) 4 = ((a / 16 : Nat) : Int) ∧ hv_ushr (a : Int) 8 = ((a / 256 : Nat) : Int) ∧ hv_ushr (a : Int) 16 = ((a / 65536 : Nat) : Int) := by
  have key : ∀ (s : Int) (k : Nat), (((hv_I s).toUInt32 &&& Int32.toUInt32 31).toBitVec % 32#32).toNat = k → hv_ushr (a : Int) s = ((a >>> k : Nat) : Int) := fun s k hk => by
    have e : hv_ushr (a : Int) s = ((hv_I (a : Int)).toBitVec >>> (((hv_I s).toUInt32 &&& Int32.toUInt32 31).toBitVec % 32#32)).toInt := rfl
    have ht : ((hv_I (a : Int)).toBitVec >>> (((hv_I s).toUInt32 &&& Int32.toUInt32 31).toBitVec % 32#32)).toNat = a >>> k := by
      rw [BitVec.ushiftRight_eq', BitVec.toNat_ushiftRight, hk, hI_bv, BitVec.toNat_ofNat, Nat.mod_eq_of_lt (by omega)]
    have hs : a >>> k < 2 ^ 31 := by
      rw [Nat.shiftRight_eq_div_pow]
      exact Nat.lt_of_le_of_lt (Nat.div_le_self _ _) (by omega)
    rw [e, bv_toInt (by rw [ht]; omega), ht]
  refine ⟨?_, ?_, ?_, ?_, ?_⟩
  · rw [key 1 1 (by decide), Nat.shiftRight_eq_div_pow]
  · rw [key 2 2 (by decide), Nat.shiftRight_eq_div_pow]
  · rw [key 4 4 (by decide), Nat.shiftRight_eq_div_pow]
  · rw [key 8 8 (by decide), Nat.shiftRight_eq_div_pow]
  · rw [key 16 16 (by decide), Nat.shiftRight_eq_div_pow]
theorem and_m1 (V Q : Nat) {u : Nat} (hu : u < 256) : ((256 * V + u) / 2) &&& (256 * Q + 85) = 256 * ((V / 2) &&& Q) + ((u / 2) &&& 85) := by
  have t : ((List.range 256).all fun u => ((128 * 0 + u / 2) &&& 85) == ((u / 2) &&& 85) && (((128 * 1 + u / 2) &&& 85) == ((u / 2) &&& 85))) = true := by decide +kernel
  have tu := List.all_eq_true.mp t u (List.mem_range.mpr hu)
  rw [Bool.and_eq_true, beq_iff_eq, beq_iff_eq] at tu
  have e : (256 * V + u) / 2 = 2 ^ 8 * (V / 2) + (128 * (V % 2) + u / 2) := by omega
  rw [e, show 256 * Q + 85 = 2 ^ 8 * Q + 85 from rfl, and_split 8 _ _ _ _ (by omega) (by decide)]
  rcases Nat.mod_two_eq_zero_or_one V with c | c
  · rw [c, tu.1]
  · rw [c, tu.2]
theorem and_m2 (V Q : Nat) {u : Nat} (hu : u < 256) : (256 * V + u) &&& (256 * Q + 51) = 256 * (V &&& Q) + (u &&& 51) := and_split 8 u V 51 Q hu (by decide)
theorem and_m3 (V Q : Nat) {u : Nat} (hu : u < 256) : ((256 * V + u) / 4) &&& (256 * Q + 51) = 256 * ((V / 4) &&& Q) + ((u / 4) &&& 51) := by
  have t : ((List.range 256).all fun u => (List.range 4).all fun c => ((64 * c + u / 4) &&& 51) == ((u / 4) &&& 51)) = true := by decide +kernel
  have tu := List.all_eq_true.mp (List.all_eq_true.mp t u (List.mem_range.mpr hu)) (V % 4) (List.mem_range.mpr (by omega))
  rw [beq_iff_eq] at tu
  have e : (256 * V + u) / 4 = 2 ^ 8 * (V / 4) + (64 * (V % 4) + u / 4) := by omega
  rw [e, show 256 * Q + 51 = 2 ^ 8 * Q + 51 from rfl, and_split 8 _ _ _ _ (by omega) (by decide), tu]
theorem and_m4 (V Q : Nat) {u : Nat} (hu : u < 256) : (256 * V + u) &&& (256 * Q + 15) = 256 * (V &&& Q) + u % 16 := by
  rw [show 256 * V + u = 2 ^ 8 * V + u from rfl, show 256 * Q + 15 = 2 ^ 8 * Q + 15 from rfl, and_split 8 u V 15 Q hu (by decide), show u &&& 15 = u % 16 from Nat.and_two_pow_sub_one_eq_mod u 4]
