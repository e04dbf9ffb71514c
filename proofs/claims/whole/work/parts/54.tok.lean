/-! tokens -/
def bBl (x : Nat) : Bool := decide (x = 32 ∨ x = 10)
def bLe (x : Nat) : Bool := decide (97 ≤ x ∧ x ≤ 122)
def bDi (x : Nat) : Bool := decide (48 ≤ x ∧ x ≤ 57)
def kd : List Nat → Nat
  | [] => 0
  | x :: _ => if bLe x then 1 else if bDi x then 2 else if x = 59 then 3 else 4
def rs : List Nat → List Nat
  | [] => []
  | x :: l => if bLe x then l.dropWhile bLe else if bDi x then l.dropWhile bDi else l
def nx (q : List Nat) : List Nat := (rs q).dropWhile bBl
def dv (v : Nat) : List Nat → Nat
  | [] => v
  | x :: l => dv (v * 10 + (x - 48)) l
def vl (q : List Nat) : Nat := dv 0 (q.takeWhile bDi)
def wds : List (List Nat) := [[112, 108, 97, 110], [108, 97, 119], [104, 97, 110, 100, 115], [110, 101, 119], [112, 117, 116], [106, 111, 105, 110], [116, 97, 107, 101], [102, 111, 114]]
def wd (w : Nat) : List Nat := wds.getD w []
def isw (w : Nat) (q : List Nat) : Bool := decide (kd q = 1 ∧ q.takeWhile bLe = wd w)
theorem wd_len : ∀ w, w < 8 → (wd w).length ≤ 5 ∧ hv_shr (hv_sl w) 0 = ((wd w).length : Int) ∧ hv_sl w = ((wd w).length : Int) := by decide
theorem wd_ch : ∀ w, w < 8 → ∀ i, i < 5 → i < (wd w).length → hv_and (hv_ch w i) 255 = ((wd w).getD i 0 : Int) ∧ 97 ≤ (wd w).getD i 0 ∧ (wd w).getD i 0 ≤ 122 := by decide
theorem w_length {w : Nat} (hw : w < 8) (m : hMem) : f_J0_length_8abf5 w m = some (((wd w).length : Int), m) := by
  unfold f_J0_length_8abf5 f_J0_coder_7d493
  rw [hp_eq_f (by decide) (by decide) (by decide), show hv_ret 0 m = some (0, m) from rfl, hp_b, (wd_len w hw).2.1]
  rfl
theorem w_charAt {w i : Nat} (hw : w < 8) (hi : i < (wd w).length) (m : hMem) : f_J0_charAt_5068e w (i : Int) m = some (((wd w).getD i 0 : Int), m) := by
  have h5 := (wd_len w hw).1
  have h6 := (wd_len w hw).2.2
  obtain ⟨c1, c2, c3⟩ := wd_ch w hw i (by omega) hi
  unfold f_J0_charAt_5068e f_J0_isLatin1_aae02 f_J1_charAt_3b067 f_J0_checkIndex_df160 f_J3_checkIndex_8e157 hv_sb
  rw [hp_eq_f (by decide) (by decide) (by decide), hp_eq_t (by decide) (by decide) (by decide), hp_zr1, hp_b, hp_eq_f (by decide) (by decide) (by decide), h6, hp_lt_f (by omega) (by decide) (by omega), hp_lt_t (by omega) (by omega) (by omega)]
  rw [show hv_ret (i : Int) m = some ((i : Int), m) from rfl, hp_b, show hv_ret 0 m = some (0, m) from rfl, hp_b, if_pos ⟨by omega, by omega⟩, Int.toNat_natCast]
  show hv_b (hv_ret (hv_and (hv_ch w i) 255) m) (fun r2 m2 => hv_cr r2 m2) = _
  rw [c1, show hv_ret (((wd w).getD i 0 : Nat) : Int) m = some ((((wd w).getD i 0 : Nat) : Int), m) from rfl, hp_b, hv_cr, if_pos ⟨by omega, by omega⟩]
/-! the class's tape -/
def TpC (bs : List Nat) (m : hMem) : Prop := m 1 1 = (bs.length : Int) ∧ bs.length ≤ 600 ∧ (∀ i, i < bs.length → m 2 i = ((bs.getD i 0 : Nat) : Int)) ∧ ∀ x ∈ bs, x < 256
theorem TpC.eq {bs : List Nat} {m m' : hMem} (h : TpC bs m) (e1 : m' 1 = m 1) (e2 : m' 2 = m 2) : TpC bs m' := ⟨by rw [e1]; exact h.1, h.2.1, fun i hi => by rw [e2]; exact h.2.2.1 i hi, h.2.2.2⟩
theorem t_len {bs : List Nat} {m : hMem} (h : TpC bs m) : f_X7_length m = some ((bs.length : Int), m) := by unfold f_X7_length; rw [h.1]; rfl
theorem t_byte {bs p q : List Nat} {x : Nat} {m : hMem} (h : TpC bs m) (e : bs = p ++ x :: q) : f_X7_byteAt (p.length : Int) m = some ((x : Int), m) ∧ x < 256 ∧ p.length + 1 + q.length = bs.length := by
  have hl := congrArg List.length e
  rw [List.length_append, List.length_cons] at hl
  have h6 := h.2.1
  refine ⟨?_, h.2.2.2 x (by rw [e]; simp), by omega⟩
  unfold f_X7_byteAt
  rw [hp_lt_f (by omega) (by decide) (by omega), h.1, hp_lt_t (by omega) (by omega) (by omega), hp_lt_t (by omega) (by decide) (by omega), hp_ald (by omega) (by omega), Int.toNat_natCast, h.2.2.1 p.length (by omega)]
  rw [e, getD_mid]
  rfl
theorem t_blank {x : Nat} (hx : x < 256) (m : hMem) : f_X8_isBlank (x : Int) m = some (if bBl x then 1 else 0, m) := by
  unfold f_X8_isBlank bBl
  by_cases c : x = 32
  · rw [hp_eq_t (by omega) (by decide) (by omega), if_pos (by simp [c])]; rfl
  · rw [hp_eq_f (by omega) (by decide) (by omega)]
    by_cases c2 : x = 10
    · rw [hp_eq_t (by omega) (by decide) (by omega), if_pos (by simp [c2])]; rfl
    · rw [hp_eq_f (by omega) (by decide) (by omega), if_neg (by simp [c, c2])]; rfl
theorem t_letter {x : Nat} (hx : x < 256) (m : hMem) : f_X8_isLetter (x : Int) m = some (if bLe x then 1 else 0, m) := by
  unfold f_X8_isLetter bLe
  by_cases c : x < 97
  · rw [hp_lt_t (by omega) (by decide) (by omega), if_neg (by simp; omega)]; rfl
  · rw [hp_lt_f (by omega) (by decide) (by omega)]
    by_cases c2 : 122 < x
    · rw [hp_lt_t (by decide) (by omega) (by omega), if_neg (by simp; omega)]; rfl
    · rw [hp_lt_f (by decide) (by omega) (by omega), if_pos (by simp; omega)]; rfl
theorem t_digit {x : Nat} (hx : x < 256) (m : hMem) : f_X8_isDigit (x : Int) m = some (if bDi x then 1 else 0, m) := by
  unfold f_X8_isDigit bDi
  by_cases c : x < 48
  · rw [hp_lt_t (by omega) (by decide) (by omega), if_neg (by simp; omega)]; rfl
  · rw [hp_lt_f (by omega) (by decide) (by omega)]
    by_cases c2 : 57 < x
    · rw [hp_lt_t (by decide) (by omega) (by omega), if_neg (by simp; omega)]; rfl
    · rw [hp_lt_f (by decide) (by omega) (by omega), if_pos (by simp; omega)]; rfl
theorem len_drop_le {f : Nat → Bool} {l : List Nat} : (l.dropWhile f).length ≤ l.length := (List.dropWhile_sublist f).length_le
theorem c_letters {bs : List Nat} : ∀ (l p : List Nat) (n : Nat) (m : hMem), l.length < n → TpC bs m → bs = p ++ l → m 4 3 = (p.length : Int) →
    ∃ m', L_X8_passLetters_0 n m = some (0, m') ∧ m' 4 3 = ((bs.length - (l.dropWhile bLe).length : Nat) : Int) ∧ (∀ k j, ¬ (k = 4 ∧ j = 3) → m' k j = m k j)
  | _, _, 0, _, hn, _, _, _ => by omega
  | [], p, n + 1, m, hn, h, e, h3 => by
    rw [List.append_nil] at e
    have h6 := h.2.1
    refine ⟨m, ?_, by rw [h3, e]; simp, fun _ _ _ => rfl⟩
    show B_X8_passLetters_0 (L_X8_passLetters_0 n) m = _
    unfold B_X8_passLetters_0
    rw [t_len h, hp_b, h3, ← e, hp_lt_f (by omega) (by omega) (by omega)]
    rfl
  | x :: l, p, n + 1, m, hn, h, e, h3 => by
    obtain ⟨b1, b2, b3⟩ := t_byte h e
    have h6 := h.2.1
    simp only [List.length_cons] at hn
    show ∃ m', B_X8_passLetters_0 (L_X8_passLetters_0 n) m = _ ∧ _
    unfold B_X8_passLetters_0
    rw [t_len h, hp_b, h3, hp_lt_t (by omega) (by omega) (by omega), b1, hp_b, t_letter b2, hp_b]
    by_cases c : bLe x = true
    · rw [if_pos c, hp_eq_f (by decide) (by decide) (by decide), hp_put, h3, List.dropWhile_cons_of_pos c]
      obtain ⟨m', g1, g2, g3⟩ := c_letters l (p ++ [x]) n (hv_up m 4 3 ((p.length : Int) + 1)) (by omega) (h.eq (hp_up_kk _ _ _ (by omega)) (hp_up_kk _ _ _ (by omega))) (by rw [e]; simp) (by rw [hp_up_same]; simp)
      refine ⟨m', g1, g2, fun k j hkj => ?_⟩
      rw [g3 k j hkj]
      by_cases ek : k = 4
      · subst ek; rw [hp_up_j _ _ _ (fun e => hkj ⟨rfl, e⟩)]
      · rw [hp_up_k _ _ _ _ ek]
    · rw [if_neg c, hp_eq_t (by decide) (by decide) (by decide), List.dropWhile_cons_of_neg c]
      exact ⟨m, rfl, by rw [h3, List.length_cons]; omega, fun _ _ _ => rfl⟩
theorem fe_min {x y : Int} {m : hMem} (hx : hv_R32 x) (hy : hv_R32 y) : f_J9_min_7cf53 x y m = some (min x y, m) := by
  unfold f_J9_min_7cf53
  by_cases h : y < x
  · rw [hp_lt_t hy hx h, show min x y = y by omega]; rfl
  · rw [hp_lt_f hy hx (by omega), show min x y = x by omega]; rfl
theorem dv_mono {c : Nat} (v u : Nat) (h : min v c = min u c) : ∀ l : List Nat, min (dv v l) c = min (dv u l) c := by
  intro l
  induction l generalizing v u with
  | nil => exact h
  | cons x l ih => exact ih _ _ (by omega)
theorem c_digits {bs : List Nat} : ∀ (l p : List Nat) (n v : Nat) (m : hMem), l.length < n → TpC bs m → bs = p ++ l → m 4 3 = (p.length : Int) → m 4 4 = ((min v 10000 : Nat) : Int) →
    ∃ m', L_X8_passDigits_18 n m = some (0, m') ∧ m' 4 3 = ((bs.length - (l.dropWhile bDi).length : Nat) : Int) ∧ m' 4 4 = ((min (dv v (l.takeWhile bDi)) 10000 : Nat) : Int) ∧ (∀ k j, ¬ (k = 4 ∧ (j = 3 ∨ j = 4)) → m' k j = m k j)
  | _, _, 0, _, _, hn, _, _, _, _ => by omega
  | [], p, n + 1, v, m, hn, h, e, h3, h4 => by
    rw [List.append_nil] at e
    have h6 := h.2.1
    refine ⟨m, ?_, by rw [h3, e]; simp, by rw [h4]; rfl, fun _ _ _ => rfl⟩
    show B_X8_passDigits_18 (L_X8_passDigits_18 n) m = _
    unfold B_X8_passDigits_18
    rw [t_len h, hp_b, h3, ← e, hp_lt_f (by omega) (by omega) (by omega)]
    rfl
  | x :: l, p, n + 1, v, m, hn, h, e, h3, h4 => by
    obtain ⟨b1, b2, b3⟩ := t_byte h e
    have h6 := h.2.1
    simp only [List.length_cons] at hn
    show ∃ m', B_X8_passDigits_18 (L_X8_passDigits_18 n) m = _ ∧ _
    unfold B_X8_passDigits_18
    rw [t_len h, hp_b, h3, hp_lt_t (by omega) (by omega) (by omega), b1, hp_b, t_digit b2, hp_b]
    by_cases c : bDi x = true
    · have c' : 48 ≤ x ∧ x ≤ 57 := by simpa [bDi] using c
      rw [if_pos c, hp_eq_f (by decide) (by decide) (by decide), h3, b1, hp_b, h4, fe_min (by omega) (by decide), hp_b, hp_put, hp_put, List.dropWhile_cons_of_pos c, List.takeWhile_cons_of_pos c]
      rw [hp_up_j _ _ _ (by omega), h3]
      obtain ⟨m1, em1⟩ : ∃ m1 : hMem, m1 = hv_up (hv_up m 4 4 (min (((min v 10000 : Nat) : Int) * 10 + (x : Int) - 48) 10000)) 4 3 ((p.length : Int) + 1) := ⟨_, rfl⟩
      rw [← em1]
      obtain ⟨m', g1, g2, g3, g4⟩ := c_digits l (p ++ [x]) n (v * 10 + (x - 48)) m1 (by omega) (h.eq (by rw [em1, hp_up_kk _ _ _ (by omega), hp_up_kk _ _ _ (by omega)]) (by rw [em1, hp_up_kk _ _ _ (by omega), hp_up_kk _ _ _ (by omega)])) (by rw [e]; simp) (by rw [em1, hp_up_same]; simp) (by rw [em1, hp_up_j _ _ _ (by omega), hp_up_same]; omega)
      refine ⟨m', g1, g2, g3, fun k j hkj => ?_⟩
      rw [g4 k j hkj, em1]
      by_cases ek : k = 4
      · subst ek; rw [hp_up_j _ _ _ (fun e => hkj ⟨rfl, Or.inl e⟩), hp_up_j _ _ _ (fun e => hkj ⟨rfl, Or.inr e⟩)]
      · rw [hp_up_k _ _ _ _ ek, hp_up_k _ _ _ _ ek]
    · rw [if_neg c, hp_eq_t (by decide) (by decide) (by decide), List.dropWhile_cons_of_neg c, List.takeWhile_cons_of_neg c]
      exact ⟨m, rfl, by rw [h3, List.length_cons]; omega, by rw [h4]; rfl, fun _ _ _ => rfl⟩
/-- the class's token stands at the beginning of this rest of the tape -/
def TC (bs q : List Nat) (m : hMem) : Prop := TpC bs m ∧ (∃ p, bs = p ++ q) ∧ m 4 1 = (kd q : Int) ∧ m 4 2 = ((bs.length - q.length : Nat) : Int) ∧ m 4 3 = ((bs.length - (rs q).length : Nat) : Int) ∧ (kd q = 2 → m 4 4 = ((min (vl q) 10000 : Nat) : Int))
theorem c_move52 {bs q p : List Nat} {m : hMem} (h : TpC bs m) (e : bs = p ++ q) (h2 : m 4 2 = (p.length : Int)) : ∃ m', J_X8_move_52 m = some (0, m') ∧ TC bs q m' ∧ Fr 4 5 m m' := by
  have h6 := h.2.1
  have hl := congrArg List.length e
  rw [List.length_append] at hl
  obtain ⟨m1, em1⟩ : ∃ m1 : hMem, m1 = hv_up m 4 3 ((p.length : Int) + 1) := ⟨_, rfl⟩
  have F1 : Fr 4 5 m m1 := by rw [em1]; exact (Fr.refl _ _ _).up (by omega)
  have h1 : TpC bs m1 := h.eq (F1 1 (by omega)) (F1 2 (by omega))
  have e2 : m1 4 2 = (p.length : Int) := by rw [em1, hp_up_j _ _ _ (by omega)]; exact h2
  have e3 : m1 4 3 = (p.length : Int) + 1 := by rw [em1, hp_up_same]
  unfold J_X8_move_52
  rw [hp_put, h2, ← em1, t_len h1, hp_b, e2]
  cases q with
  | nil =>
    rw [List.length_nil] at hl
    rw [hp_lt_f (by omega) (by omega) (by omega), hp_put, hp_put]
    refine ⟨_, rfl, ⟨h1.eq ?_ ?_, ⟨p, e⟩, ?_, ?_, ?_, fun c => by cases c⟩, (((F1.up (by omega)).up (by omega)))⟩
    · rw [hp_up_kk _ _ _ (by omega), hp_up_kk _ _ _ (by omega)]
    · rw [hp_up_kk _ _ _ (by omega), hp_up_kk _ _ _ (by omega)]
    · rw [hp_up_j _ _ _ (by omega), hp_up_same]; rfl
    · rw [hp_up_j _ _ _ (by omega), hp_up_j _ _ _ (by omega), e2, List.length_nil]; omega
    · rw [hp_up_same, hp_up_j _ _ _ (by omega), e2]
      show _ = ((bs.length - ([] : List Nat).length : Nat) : Int)
      rw [List.length_nil]; omega
  | cons x q =>
    obtain ⟨b1, b2, b3⟩ := t_byte h1 e
    rw [List.length_cons] at hl
    rw [hp_lt_t (by omega) (by omega) (by omega), b1, hp_b, t_letter b2, hp_b]
    by_cases c : bLe x = true
    · have ek : kd (x :: q) = 1 := by simp [kd, c]
      have er : rs (x :: q) = q.dropWhile bLe := by simp [rs, c]
      rw [if_pos c, hp_eq_f (by decide) (by decide) (by decide), hp_put]
      obtain ⟨m2, em2⟩ : ∃ m2 : hMem, m2 = hv_up m1 4 1 1 := ⟨_, rfl⟩
      rw [← em2]
      obtain ⟨m', g1, g2, g3⟩ := c_letters (bs := bs) q (p ++ [x]) hv_FU m2 (fu_lt (by omega)) (h1.eq (by rw [em2, hp_up_kk _ _ _ (by omega)]) (by rw [em2, hp_up_kk _ _ _ (by omega)])) (by rw [e]; simp) (by rw [em2, hp_up_j _ _ _ (by omega), e3]; simp)
      have G : f_X8_passLetters m2 = some (0, m') := g1
      rw [G, hp_b]
      refine ⟨m', rfl, ⟨h1.eq ?_ ?_, ⟨p, e⟩, ?_, ?_, by rw [er]; exact g2, fun c => by omega⟩, fun k hk => ?_⟩
      · funext j; rw [g3 1 j (by omega), em2, hp_up_k _ _ _ _ (by omega)]
      · funext j; rw [g3 2 j (by omega), em2, hp_up_k _ _ _ _ (by omega)]
      · rw [g3 4 1 (by omega), em2, hp_up_same, ek]; rfl
      · rw [g3 4 2 (by omega), em2, hp_up_j _ _ _ (by omega), e2, List.length_cons]; omega
      · funext j; rw [g3 k j (by omega), em2, hp_up_k _ _ _ _ (by omega), F1 k (by omega)]
    · rw [if_neg c, hp_eq_t (by decide) (by decide) (by decide), e2, b1, hp_b, t_digit b2, hp_b]
      by_cases c2 : bDi x = true
      · have ek : kd (x :: q) = 2 := by simp [kd, c, c2]
        have er : rs (x :: q) = q.dropWhile bDi := by simp [rs, c, c2]
        have c' : 48 ≤ x ∧ x ≤ 57 := by simpa [bDi] using c2
        rw [if_pos c2, hp_eq_f (by decide) (by decide) (by decide), hp_put]
        obtain ⟨m2, em2⟩ : ∃ m2 : hMem, m2 = hv_up m1 4 1 2 := ⟨_, rfl⟩
        rw [← em2]
        have h2' : TpC bs m2 := h1.eq (by rw [em2, hp_up_kk _ _ _ (by omega)]) (by rw [em2, hp_up_kk _ _ _ (by omega)])
        have b1' := (t_byte h2' e).1
        have e2' : m2 4 2 = (p.length : Int) := by rw [em2, hp_up_j _ _ _ (by omega)]; exact e2
        obtain ⟨m3, em3⟩ : ∃ m3 : hMem, m3 = hv_up m2 4 4 ((x : Int) - 48) := ⟨_, rfl⟩
        obtain ⟨m', g1, g2, g3, g4⟩ := c_digits (bs := bs) q (p ++ [x]) hv_FU (x - 48) m3 (fu_lt (by omega)) (h2'.eq (by rw [em3, hp_up_kk _ _ _ (by omega)]) (by rw [em3, hp_up_kk _ _ _ (by omega)])) (by rw [e]; simp) (by rw [em3, hp_up_j _ _ _ (by omega), em2, hp_up_j _ _ _ (by omega), e3]; simp) (by rw [em3, hp_up_same]; omega)
        have G : f_X8_passDigits m2 = some (0, m') := by
          unfold f_X8_passDigits
          rw [e2', b1', hp_b, hp_put, ← em3]
          exact g1
        rw [G, hp_b]
        refine ⟨m', rfl, ⟨h1.eq ?_ ?_, ⟨p, e⟩, ?_, ?_, by rw [er]; exact g2, fun _ => ?_⟩, fun k hk => ?_⟩
        · funext j; rw [g4 1 j (by omega), em3, hp_up_k _ _ _ _ (by omega), em2, hp_up_k _ _ _ _ (by omega)]
        · funext j; rw [g4 2 j (by omega), em3, hp_up_k _ _ _ _ (by omega), em2, hp_up_k _ _ _ _ (by omega)]
        · rw [g4 4 1 (by omega), em3, hp_up_j _ _ _ (by omega), em2, hp_up_same, ek]; rfl
        · rw [g4 4 2 (by omega), em3, hp_up_j _ _ _ (by omega), e2', List.length_cons]; omega
        · rw [g3]
          unfold vl
          rw [List.takeWhile_cons_of_pos c2]
          show _ = ((min (dv (0 * 10 + (x - 48)) (q.takeWhile bDi)) 10000 : Nat) : Int)
          rw [Nat.zero_mul, Nat.zero_add]
        · funext j; rw [g4 k j (by omega), em3, hp_up_k _ _ _ _ (by omega), em2, hp_up_k _ _ _ _ (by omega), F1 k (by omega)]
      · have er : rs (x :: q) = q := by simp [rs, c, c2]
        rw [if_neg c2, hp_eq_t (by decide) (by decide) (by decide), e2, b1, hp_b]
        have fin : ∀ s : Nat, kd (x :: q) = s → s ≠ 2 → ∃ m', J_X8_move_172 (s : Int) m1 = some (0, m') ∧ TC bs (x :: q) m' ∧ Fr 4 5 m m' := by
          intro s es hs
          unfold J_X8_move_172
          rw [hp_put]
          refine ⟨_, rfl, ⟨h1.eq ?_ ?_, ⟨p, e⟩, ?_, ?_, ?_, fun c => by omega⟩, F1.up (by omega)⟩
          · rw [hp_up_kk _ _ _ (by omega)]
          · rw [hp_up_kk _ _ _ (by omega)]
          · rw [hp_up_same, es]
          · rw [hp_up_j _ _ _ (by omega), e2, List.length_cons]; omega
          · rw [hp_up_j _ _ _ (by omega), e3, er]; omega
        by_cases c3 : x = 59
        · rw [hp_eq_t (by omega) (by decide) (by omega)]
          exact fin 3 (by show (if bLe x = true then 1 else if bDi x = true then 2 else if x = 59 then 3 else 4) = 3; rw [if_neg c, if_neg c2, if_pos c3]) (by omega)
        · rw [hp_eq_f (by omega) (by decide) (by omega)]
          exact fin 4 (by simp [kd, c, c2, c3]) (by omega)
theorem c_moveL {bs : List Nat} : ∀ (r p : List Nat) (n : Nat) (m : hMem), r.length < n → TpC bs m → bs = p ++ r → m 4 2 = (p.length : Int) → ∃ m', L_X8_move_8 n m = some (0, m') ∧ TC bs (r.dropWhile bBl) m' ∧ Fr 4 5 m m'
  | _, _, 0, _, hn, _, _, _ => by omega
  | [], p, n + 1, m, hn, h, e, h2 => by
    have h6 := h.2.1
    have el := congrArg List.length e
    rw [List.append_nil] at el
    show ∃ m', B_X8_move_8 (L_X8_move_8 n) m = _ ∧ _
    unfold B_X8_move_8
    rw [t_len h, hp_b, h2, hp_lt_f (by omega) (by omega) (by omega)]
    exact c_move52 h e h2
  | x :: r, p, n + 1, m, hn, h, e, h2 => by
    obtain ⟨b1, b2, b3⟩ := t_byte h e
    have h6 := h.2.1
    simp only [List.length_cons] at hn
    show ∃ m', B_X8_move_8 (L_X8_move_8 n) m = _ ∧ _
    unfold B_X8_move_8
    rw [t_len h, hp_b, h2, hp_lt_t (by omega) (by omega) (by omega), b1, hp_b, t_blank b2, hp_b]
    by_cases c : bBl x = true
    · rw [if_pos c, hp_eq_f (by decide) (by decide) (by decide), hp_put, h2, List.dropWhile_cons_of_pos c]
      obtain ⟨m', g1, g2, g3⟩ := c_moveL r (p ++ [x]) n (hv_up m 4 2 ((p.length : Int) + 1)) (by omega) (h.eq (hp_up_kk _ _ _ (by omega)) (hp_up_kk _ _ _ (by omega))) (by rw [e]; simp) (by rw [hp_up_same]; simp)
      exact ⟨m', g1, g2, ((Fr.refl 4 5 m).up (by omega)).trans g3⟩
    · rw [if_neg c, hp_eq_t (by decide) (by decide) (by decide), List.dropWhile_cons_of_neg c]
      exact c_move52 h e h2
theorem rs_suf (q : List Nat) : ∃ p, q = p ++ rs q := by
  cases q with
  | nil => exact ⟨[], rfl⟩
  | cons x l =>
    show ∃ p, x :: l = p ++ (if bLe x = true then l.dropWhile bLe else if bDi x = true then l.dropWhile bDi else l)
    have sf : ∀ f : Nat → Bool, ∃ p, x :: l = p ++ l.dropWhile f := fun f => ⟨x :: l.takeWhile f, by rw [List.cons_append, List.takeWhile_append_dropWhile]⟩
    split
    · exact sf _
    · split
      · exact sf _
      · exact ⟨[x], rfl⟩
theorem c_move {bs q : List Nat} {m : hMem} (h : TC bs q m) : ∃ m', f_X8_move m = some (0, m') ∧ TC bs (nx q) m' ∧ Fr 4 5 m m' := by
  obtain ⟨h1, ⟨p, e⟩, h2, h3, h4, h5⟩ := h
  obtain ⟨p2, e2⟩ := rs_suf q
  have e3 : bs = (p ++ p2) ++ rs q := by rw [List.append_assoc, ← e2]; exact e
  have l3 := congrArg List.length e3
  rw [List.length_append] at l3
  unfold f_X8_move
  rw [hp_put, h4]
  obtain ⟨m', g1, g2, g3⟩ := c_moveL (rs q) (p ++ p2) hv_FU (hv_up m 4 2 ((bs.length - (rs q).length : Nat) : Int)) (fu_lt (by have := h1.2.1; omega)) (h1.eq (hp_up_kk _ _ _ (by omega)) (hp_up_kk _ _ _ (by omega))) e3 (by rw [hp_up_same]; omega)
  exact ⟨m', g1, g2, ((Fr.refl 4 5 m).up (by omega)).trans g3⟩
theorem c_begin {bs : List Nat} {m : hMem} (h : TpC bs m) : ∃ m', f_X8_begin m = some (0, m') ∧ TC bs (bs.dropWhile bBl) m' ∧ Fr 4 5 m m' := by
  unfold f_X8_begin f_X8_move
  rw [hp_put, hp_put, hp_up_same]
  obtain ⟨m', g1, g2, g3⟩ := c_moveL bs [] hv_FU (hv_up (hv_up m 4 3 0) 4 2 0) (fu_lt (by have := h.2.1; omega)) (h.eq (by rw [hp_up_kk _ _ _ (by omega), hp_up_kk _ _ _ (by omega)]) (by rw [hp_up_kk _ _ _ (by omega), hp_up_kk _ _ _ (by omega)])) rfl (by rw [hp_up_same]; rfl)
  rw [g1, hp_b]
  exact ⟨m', rfl, g2, (((Fr.refl 4 5 m).up (by omega)).up (by omega)).trans g3⟩
