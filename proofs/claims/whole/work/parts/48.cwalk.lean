/-! the class's walk: cells that are reached, each once -/
theorem nodup_len : ∀ {l s : List Nat}, l.Nodup → (∀ x ∈ l, x ∈ s) → l.length ≤ s.length
  | [], _, _, _ => Nat.zero_le _
  | x :: l, s, hn, hs => by
    have hn' := List.nodup_cons.mp hn
    have hx := hs x (by simp)
    have h1 := nodup_len (s := s.erase x) hn'.2 (fun y hy => by
      have : y ≠ x := fun e => hn'.1 (e ▸ hy)
      exact (List.mem_erase_of_ne this).mpr (hs y (by simp [hy])))
    have h2 := List.length_erase_of_mem hx
    have h3 : 1 ≤ s.length := by
      cases s with
      | nil => simp at hx
      | cons a s => simp
    simp only [List.length_cons]
    omega
theorem nodup_lt {l : List Nat} {n : Nat} (h : l.Nodup) (hl : ∀ x ∈ l, x < n) : l.length ≤ n := by
  have := nodup_len (s := List.range n) h (fun x hx => List.mem_range.mpr (hl x hx))
  rwa [List.length_range] at this
theorem nodup_pos {l : List Nat} {n : Nat} (h : l.Nodup) (hl : ∀ x ∈ l, 0 < x ∧ x < n) (hn : 1 ≤ n) : l.length + 1 ≤ n := by
  have := nodup_lt (l := 0 :: l) (n := n) (List.nodup_cons.mpr ⟨fun h0 => by have := (hl 0 h0).1; omega, h⟩) (fun x hx => by
    rcases List.mem_cons.mp hx with e | e
    · omega
    · exact (hl x e).2)
  simpa using this
def ch (A : hA) (a : Nat) : List Nat := n_head (a_g A a) :: (n_sg (a_g A a) ++ n_bl (a_g A a))
theorem reach_sub {law : Nat} {A : hA} (hw : Wf law A) {X : Nat → Prop} (hX : ∀ a, X a → 0 < a → a < A.length → ∀ c ∈ ch A a, c ≠ 0 → X c) : ∀ (n a : Nat), a < n → 0 < a → a < A.length → X a → ∀ y ∈ n_reach (a_g A a), X y
  | 0, a, hn, _, _, _ => by omega
  | n + 1, a, hn, h0, ha, hxa => by
    intro y hy
    have hc := hX a hxa h0 ha
    have sub : ∀ c, c ∈ ch A a → 0 < c → c < a → y ∈ n_reach (a_g A c) → X y := fun c c1 c2 c3 c4 => reach_sub hw hX n c (by omega) c2 (by omega) (hc c c1 (by omega)) y c4
    rcases (hw.2.2 a h0 ha).1 with ⟨t, q, e, hq, -⟩ | ⟨r, h, sg, bl, e, hh, hs, hb, -⟩
    · have ech : ch A a = 0 :: ([] ++ q) := by rw [ch, e]; rfl
      rw [e] at hy
      have hy : y ∈ a :: fm A n_reach q := hy
      rcases List.mem_cons.mp hy with e | hy
      · rw [e]; exact hxa
      · obtain ⟨c, c1, c2⟩ := mem_fm.mp hy
        exact sub c (by rw [ech]; simp [c1]) (hq c c1).1 (hq c c1).2.1 c2
    · have ech : ch A a = h :: (sg ++ bl) := by rw [ch, e]; rfl
      rw [e] at hy
      have hy : y ∈ a :: (n_reach (a_g A h) ++ (fm A n_reach sg ++ fm A n_reach bl)) := hy
      rcases List.mem_cons.mp hy with e | hy
      · rw [e]; exact hxa
      · rcases List.mem_append.mp hy with hy | hy
        · exact sub h (by rw [ech]; simp) hh.1 hh.2.1 hy
        · rcases List.mem_append.mp hy with hy | hy
          · obtain ⟨c, c1, c2⟩ := mem_fm.mp hy
            exact sub c (by rw [ech]; simp [c1]) (hs c c1).1 (hs c c1).2.1 c2
          · obtain ⟨c, c1, c2⟩ := mem_fm.mp hy
            exact sub c (by rw [ech]; simp [c1]) (hb c c1).1 (hb c c1).2.1 c2
theorem ch_reach {law : Nat} {A : hA} (hw : Wf law A) {a : Nat} (h0 : 0 < a) (ha : a < A.length) : ∀ c ∈ ch A a, c ≠ 0 → 0 < c ∧ c < a ∧ c ∈ n_reach (a_g A a) := by
  intro c hc hne
  have self : ∀ x, 0 < x → x < A.length → x ∈ n_reach (a_g A x) := fun x x0 x1 => (hw.2.2 x x0 x1).2.2.2.2.2.2.2.2
  rcases (hw.2.2 a h0 ha).1 with ⟨t, q, e, hq, -⟩ | ⟨r, h, sg, bl, e, hh, hs, hb, -⟩
  · have ech : ch A a = 0 :: ([] ++ q) := by rw [ch, e]; rfl
    rw [ech] at hc
    have hc : c ∈ 0 :: q := hc
    rcases List.mem_cons.mp hc with z | hc
    · exact absurd z hne
    · refine ⟨(hq c hc).1, (hq c hc).2.1, ?_⟩
      rw [e]
      show c ∈ a :: fm A n_reach q
      exact List.mem_cons_of_mem _ (mem_fm.mpr ⟨c, hc, self c (hq c hc).1 (by have := (hq c hc).2.1; omega)⟩)
  · have ech : ch A a = h :: (sg ++ bl) := by rw [ch, e]; rfl
    rw [ech] at hc
    rw [e]
    show _ ∧ _ ∧ c ∈ a :: (n_reach (a_g A h) ++ (fm A n_reach sg ++ fm A n_reach bl))
    rcases List.mem_cons.mp hc with z | hc
    · rw [z]
      exact ⟨hh.1, hh.2.1, List.mem_cons_of_mem _ (List.mem_append_left _ (self h hh.1 (by omega)))⟩
    · rcases List.mem_append.mp hc with hc | hc
      · exact ⟨(hs c hc).1, (hs c hc).2.1, List.mem_cons_of_mem _ (List.mem_append_right _ (List.mem_append_left _ (mem_fm.mpr ⟨c, hc, self c (hs c hc).1 (by have := (hs c hc).2.1; omega)⟩)))⟩
      · exact ⟨(hb c hc).1, (hb c hc).2.1, List.mem_cons_of_mem _ (List.mem_append_right _ (List.mem_append_right _ (mem_fm.mpr ⟨c, hc, self c (hb c hc).1 (by have := (hb c hc).2.1; omega)⟩)))⟩
/-- met so far in this round -/
def Wk (W : List Nat) (r : Nat) (m : hMem) : Prop := m 58 2 = (r : Int) ∧ m 58 3 = (W.length : Int) ∧ (∀ i, i < W.length → m 60 i = ((W.getD i 0 : Nat) : Int)) ∧ W.Nodup ∧ (∀ c ∈ W, 0 < c ∧ c < 864) ∧ (∀ c, c < 864 → 0 < c → (m 59 c = (r : Int) ↔ c ∈ W)) ∧ ∀ c, c < 864 → 0 ≤ m 59 c ∧ m 59 c ≤ (r : Int)
def meetW (W : List Nat) (x : Nat) : List Nat := if x = 0 ∨ x ∈ W then W else W ++ [x]
theorem meetW_sub (W : List Nat) (x : Nat) : ∀ y ∈ W, y ∈ meetW W x := fun y hy => by
  unfold meetW
  split
  · exact hy
  · exact List.mem_append_left _ hy
theorem w_meet {W : List Nat} {r x : Nat} {m : hMem} (h : Wk W r m) (hx : x < 864) (hr : r < 100000) : ∃ m', f_X9_meet (x : Int) m = some (0, m') ∧ Wk (meetW W x) r m' ∧ Fr 58 61 m m' := by
  obtain ⟨h1, h2, h3, h4, h5, h6, h7⟩ := h
  unfold f_X9_meet meetW
  by_cases x0 : x = 0
  · rw [hp_eq_t (by omega) (by decide) (by omega), if_pos (Or.inl x0)]
    exact ⟨m, rfl, ⟨h1, h2, h3, h4, h5, h6, h7⟩, Fr.refl _ _ _⟩
  · have q7 := h7 x hx
    rw [hp_eq_f (by omega) (by decide) (by omega), fe_at' (by omega) (by omega) (by omega), hp_b, Int.toNat_natCast, h1]
    by_cases c : x ∈ W
    · rw [hp_eq_t (by omega) (by omega) ((h6 x hx (by omega)).mpr c), if_pos (Or.inr c)]
      exact ⟨m, rfl, ⟨h1, h2, h3, h4, h5, h6, h7⟩, Fr.refl _ _ _⟩
    · have hne : m 59 x ≠ (r : Int) := fun e => c ((h6 x hx (by omega)).mp e)
      have hlen : W.length + 1 + 1 ≤ 864 := by
        have := nodup_pos (l := x :: W) (n := 864) (List.nodup_cons.mpr ⟨c, h4⟩) (fun y hy => by
          rcases List.mem_cons.mp hy with e | e
          · omega
          · exact h5 y e) (by omega)
        simpa using this
      rw [hp_eq_f (by omega) (by omega) (by omega), if_neg (by intro e; rcases e with e | e; exact x0 e; exact c e)]
      rw [fe_set (by omega) (by omega) (by omega), hp_b, Int.toNat_natCast, hp_up_k _ _ _ _ (by omega), h2, fe_set (by omega) (by omega) (by omega), hp_b, Int.toNat_natCast, hp_put]
      rw [hp_up_k _ _ _ _ (by omega), hp_up_k _ _ _ _ (by omega), h2]
      refine ⟨_, rfl, ⟨?_, ?_, fun i hi => ?_, ?_, ?_, fun c' hc' hc0 => ?_, fun c' hc' => ?_⟩, (((Fr.refl _ _ _).up (by omega)).up (by omega)).up (by omega)⟩
      · rw [hp_up_j _ _ _ (by omega), hp_up_k _ _ _ _ (by omega), hp_up_k _ _ _ _ (by omega)]; exact h1
      · rw [hp_up_same, List.length_append]; rfl
      · rw [List.length_append] at hi
        have hi : i < W.length + 1 := hi
        rw [hp_up_k _ _ _ _ (by omega)]
        by_cases ci : i = W.length
        · rw [ci, hp_up_same, getD_snoc]
        · rw [hp_up_j _ _ _ ci, hp_up_k _ _ _ _ (by omega), getD_app _ _ _ (by omega)]
          exact h3 i (by omega)
      · rw [List.nodup_append]
        refine ⟨h4, by simp, fun a ha b hb => ?_⟩
        simp at hb
        rw [hb]
        exact fun e => c (e ▸ ha)
      · intro y hy
        rcases List.mem_append.mp hy with hy | hy
        · exact h5 y hy
        · simp at hy; omega
      · rw [hp_up_k _ _ _ _ (by omega), hp_up_k _ _ _ _ (by omega)]
        by_cases e : c' = x
        · rw [e, hp_up_same]; simp
        · rw [hp_up_j _ _ _ e, h6 c' hc' hc0]
          simp [e]
      · rw [hp_up_k _ _ _ _ (by omega), hp_up_k _ _ _ _ (by omega)]
        by_cases e : c' = x
        · rw [e, hp_up_same]; omega
        · rw [hp_up_j _ _ _ e]; exact h7 c' hc'
theorem w_meetAllL {c : Nat} {A : hA} {R r : Nat} (hr : r < 100000) (hc58 : c + 10 ≤ 58) : ∀ (l : List Nat) (n i : Nat) (W : List Nat) (k : Int) (m : hMem), l.length < n → i + l.length < 2592 → Ce c A R m → Rw c m R k l → (∀ x ∈ l, x < 864) → Wk W r m →
    ∃ m', L_X9_meetAll_5 c n k (i : Int) m = some (0, m') ∧ Wk (l.foldl meetW W) r m' ∧ Fr 58 61 m m'
  | _, 0, _, _, _, _, hn, _, _, _, _, _ => by omega
  | [], n + 1, i, W, k, m, hn, hi, h, hk, hl, hW => by
    have k0 : k = 0 := hk
    simp only [List.length_nil] at hi
    refine ⟨m, ?_, hW, Fr.refl _ _ _⟩
    show B_X9_meetAll_5 c (L_X9_meetAll_5 c n) k (i : Int) m = _
    unfold B_X9_meetAll_5
    rw [hp_lt_t (by omega) (by decide) (by omega), hp_eq_t (by omega) (by decide) k0]
    rfl
  | x :: l, n + 1, i, W, k, m, hn, hi, h, hk, hl, hW => by
    simp only [List.length_cons] at hn hi
    have hk0 : k ≠ 0 := fun e => by have := hk.nil_iff.mp e; cases this
    have hkl := hk.lt h.2.2.2.2.2.1
    have hf : f_X1_firstOf c k m = some ((x : Int), m) := ce_first h hk
    obtain ⟨m1, a1, a2, a3⟩ := w_meet hW (hl x (by simp)) hr
    have h1 : Ce c A R m1 := h.eq (fun k k1 k2 => a3 k (by omega))
    have hE : Ex c 0 R m m1 := Ex.of_eq (fun k k1 k2 => a3 k (by omega))
    obtain ⟨kr, r1, r2⟩ := ce_rest h1 (Rw.ex hE (Nat.le_refl _) hk)
    have r2 : Rw c m1 R kr l := r2
    obtain ⟨m', g1, g2, g3⟩ := w_meetAllL hr hc58 l n (i + 1) (meetW W x) kr m1 (by omega) (by omega) h1 r2 (fun y hy => hl y (by simp [hy])) a2
    refine ⟨m', ?_, g2, a3.trans g3⟩
    show B_X9_meetAll_5 c (L_X9_meetAll_5 c n) k (i : Int) m = _
    unfold B_X9_meetAll_5
    rw [hp_lt_t (by omega) (by decide) (by omega), hp_eq_f (by omega) (by decide) (by omega), hf, hp_b, a1, hp_b, r1, hp_b, hp_set]
    exact g1
theorem mem_meets {x : Nat} : ∀ {l W : List Nat}, x ∈ l.foldl meetW W ↔ x ∈ W ∨ (x ≠ 0 ∧ x ∈ l)
  | [], W => by simp
  | y :: l, W => by
    rw [List.foldl_cons, mem_meets (l := l)]
    have : x ∈ meetW W y ↔ x ∈ W ∨ (x ≠ 0 ∧ x = y) := by
      unfold meetW
      split
      · rename_i h
        constructor
        · exact fun h => Or.inl h
        · rintro (h1 | ⟨h1, h2⟩)
          · exact h1
          · rcases h with h | h
            · exact absurd (h2.trans h) h1
            · rw [h2]; exact h
      · rename_i h
        rw [List.mem_append]
        constructor
        · rintro (h1 | h1)
          · exact Or.inl h1
          · simp at h1
            exact Or.inr ⟨fun e => h (Or.inl (by omega)), h1⟩
        · rintro (h1 | ⟨h1, h2⟩)
          · exact Or.inl h1
          · exact Or.inr (by simp [h2])
    rw [this]
    simp only [List.mem_cons]
    constructor
    · rintro ((h | ⟨h1, h2⟩) | ⟨h1, h2⟩)
      · exact Or.inl h
      · exact Or.inr ⟨h1, Or.inl h2⟩
      · exact Or.inr ⟨h1, Or.inr h2⟩
    · rintro (h | ⟨h1, h2 | h2⟩)
      · exact Or.inl (Or.inl h)
      · exact Or.inl (Or.inr ⟨h1, h2⟩)
      · exact Or.inr ⟨h1, h2⟩
theorem meets_px {l W : List Nat} : ∃ X, l.foldl meetW W = W ++ X := by
  induction l generalizing W with
  | nil => exact ⟨[], by simp⟩
  | cons y l ih =>
    rw [List.foldl_cons]
    have h1 : ∃ X, meetW W y = W ++ X := by
      unfold meetW
      split
      · exact ⟨[], by simp⟩
      · exact ⟨[y], rfl⟩
    obtain ⟨X, hX⟩ := h1
    obtain ⟨Y, hY⟩ := ih (W := meetW W y)
    exact ⟨X ++ Y, by rw [hY, hX, List.append_assoc]⟩
