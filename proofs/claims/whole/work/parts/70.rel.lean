/-! the reference's heaps and trees: which nodes they are -/
abbrev hG : Type := List Nat × List Nat × Nat
def g_H (G : hG) : List Nat := G.1
def g_T (G : hG) : List Nat := G.2.1
def g_L (G : hG) : Nat := G.2.2
def Lr (m : hMem) (L : Nat) (M : List Nat) : Int → List Nat → Prop
  | k, [] => k = -1
  | k, x :: l => ∃ j t : Nat, k = (j : Int) ∧ j < L ∧ m 75 j = (t : Int) ∧ M[t]? = some x ∧ Lr m L M (m 76 j) l
def Ms (M M' : List Nat) : Prop := ∀ i a : Nat, M[i]? = some a → M'[i]? = some a
theorem get_lt {M : List Nat} {i a : Nat} (h : M[i]? = some a) : i < M.length := by
  rcases Nat.lt_or_ge i M.length with c | c
  · exact c
  · rw [List.getElem?_eq_none c] at h; cases h
theorem Ms.refl (M : List Nat) : Ms M M := fun _ _ h => h
theorem Ms.trans {M1 M2 M3 : List Nat} (h1 : Ms M1 M2) (h2 : Ms M2 M3) : Ms M1 M3 := fun i a h => h2 i a (h1 i a h)
theorem ms_app (M X : List Nat) : Ms M (M ++ X) := fun i a h => by rw [List.getElem?_append_left (get_lt h)]; exact h
theorem get_new (M : List Nat) (x : Nat) : (M ++ [x])[M.length]? = some x := by simp
theorem get_snoc {M : List Nat} {x i a : Nat} (h : (M ++ [x])[i]? = some a) (hi : M.length ≤ i) : i = M.length ∧ a = x := by
  have hl := get_lt h
  rw [List.length_append, List.length_singleton] at hl
  have e : i = M.length := by omega
  refine ⟨e, ?_⟩
  rw [e, get_new] at h
  injection h with h
  exact h.symm
theorem Lr.ex {m m' : hMem} {L L' : Nat} {M M' : List Nat} (h : ∀ j, j < L → m' 75 j = m 75 j ∧ m' 76 j = m 76 j) (hL : L ≤ L') (hM : Ms M M') : ∀ {l : List Nat} {k : Int}, Lr m L M k l → Lr m' L' M' k l
  | [], _, hk => hk
  | x :: l, k, ⟨j, t, h1, h2, h3, h4, h5⟩ => ⟨j, t, h1, by omega, by rw [(h j h2).1]; exact h3, hM t x h4, by rw [(h j h2).2]; exact Lr.ex h hL hM h5⟩
theorem Lr.lt {m : hMem} {L : Nat} {M l : List Nat} {k : Int} (h : Lr m L M k l) : -1 ≤ k ∧ k ≤ (L : Int) ∧ (l = [] → k = -1) ∧ (l ≠ [] → 0 ≤ k) := by
  cases l with
  | nil =>
    have h : k = -1 := h
    exact ⟨by omega, by omega, fun _ => h, fun c => absurd rfl c⟩
  | cons x l =>
    obtain ⟨j, t, h1, h2, -⟩ := h
    exact ⟨by omega, by omega, fun c => absurd c (List.cons_ne_nil _ _), fun _ => by omega⟩
def Hn (B : hA) (vs : List hVr) (G : hG) (m : hMem) (i a : Nat) : Prop := 0 < a ∧ a < B.length ∧ n_head (a_g B a) = 0 ∧ m 69 i = ((tn B a % 30 : Nat) : Int) ∧ Jt vs (tn B a) ∧ Lr m (g_L G) (g_T G) (m 70 i) (n_bl (a_g B a))
def Tq (B : hA) (G : hG) (m : hMem) (i a : Nat) : Prop := 0 < a ∧ a < B.length ∧ n_head (a_g B a) ≠ 0 ∧ m 71 i = (rk B a : Int) ∧ (∃ h : Nat, m 72 i = (h : Int) ∧ (g_H G)[h]? = some (n_head (a_g B a))) ∧ tn B a = tn B (n_head (a_g B a)) ∧ Lr m (g_L G) (g_H G) (m 73 i) (n_sg (a_g B a)) ∧ Lr m (g_L G) (g_T G) (m 74 i) (n_bl (a_g B a))
def Rel (B : hA) (vs : List hVr) (G : hG) (m : hMem) : Prop := m 65 13 = ((g_H G).length : Int) ∧ m 65 18 = ((g_T G).length : Int) ∧ m 65 21 = (g_L G : Int) ∧ ((g_H G).length ≤ 8000 ∧ (g_T G).length ≤ 8000 ∧ g_L G ≤ 40000) ∧ RM vs m ∧ vs.length ≤ 30 ∧ (∀ i a, (g_H G)[i]? = some a → Hn B vs G m i a) ∧ ∀ i a, (g_T G)[i]? = some a → Tq B G m i a
/-- what a heap function of the reference makes; n links more -/
def Gx (P : Nat → Prop) (n : Int) (m : hMem) (G : hG) (m' : hMem) (G' : hG) : Prop :=
  (∀ j, j < g_L G → m' 75 j = m 75 j ∧ m' 76 j = m 76 j) ∧ g_L G ≤ g_L G' ∧ (∃ X, g_H G' = g_H G ++ X ∧ X.Nodup ∧ ∀ x ∈ X, P x) ∧ (∃ X, g_T G' = g_T G ++ X ∧ X.Nodup ∧ ∀ x ∈ X, P x) ∧ (∀ k, k ≠ 65 → k < 69 ∨ 76 < k → m' k = m k) ∧ (∀ j, j ≠ 13 → j ≠ 18 → j ≠ 21 → j ≠ 22 → m' 65 j = m 65 j) ∧ m' 65 22 = m 65 22 + n
def In (lo hi x : Nat) : Prop := lo ≤ x ∧ x < hi
theorem Gx.refl (P : Nat → Prop) (m : hMem) (G : hG) : Gx P 0 m G m G := ⟨fun _ _ => ⟨rfl, rfl⟩, Nat.le_refl _, ⟨[], by simp, List.nodup_nil, fun x hx => by simp at hx⟩, ⟨[], by simp, List.nodup_nil, fun x hx => by simp at hx⟩, fun _ _ _ => rfl, fun _ _ _ _ _ => rfl, by omega⟩
theorem Gx.cast {P : Nat → Prop} {n n' : Int} {m m' : hMem} {G G' : hG} (h : Gx P n m G m' G') (e : n = n') : Gx P n' m G m' G' := e ▸ h
theorem app_nodup {P1 P2 : Nat → Prop} {X Y : List Nat} (h1 : X.Nodup) (h2 : Y.Nodup) (p1 : ∀ x ∈ X, P1 x) (p2 : ∀ x ∈ Y, P2 x) (hd : ∀ x, P1 x → P2 x → False) : (X ++ Y).Nodup :=
  List.nodup_append.mpr ⟨h1, h2, fun a ha b hb e => hd a (p1 a ha) (by rw [e]; exact p2 b hb)⟩
theorem Gx.trans {P1 P2 P : Nat → Prop} {n1 n2 : Int} {m1 m2 m3 : hMem} {G1 G2 G3 : hG} (h1 : Gx P1 n1 m1 G1 m2 G2) (h2 : Gx P2 n2 m2 G2 m3 G3) (hd : ∀ x, P1 x → P2 x → False) (hp : ∀ x, P1 x ∨ P2 x → P x) : Gx P (n1 + n2) m1 G1 m3 G3 := by
  obtain ⟨a1, a2, ⟨XH, a3, a4, a5⟩, ⟨XT, a6, a7, a8⟩, a9, a10, a11⟩ := h1
  obtain ⟨b1, b2, ⟨YH, b3, b4, b5⟩, ⟨YT, b6, b7, b8⟩, b9, b10, b11⟩ := h2
  refine ⟨fun j hj => ?_, by omega, ⟨XH ++ YH, by rw [b3, a3, List.append_assoc], app_nodup a4 b4 a5 b5 hd, fun x hx => ?_⟩, ⟨XT ++ YT, by rw [b6, a6, List.append_assoc], app_nodup a7 b7 a8 b8 hd, fun x hx => ?_⟩, fun k k1 k2 => (b9 k k1 k2).trans (a9 k k1 k2), fun j q1 q2 q3 q4 => (b10 j q1 q2 q3 q4).trans (a10 j q1 q2 q3 q4), by omega⟩
  · rw [(b1 j (by omega)).1, (b1 j (by omega)).2]; exact a1 j hj
  · rcases List.mem_append.mp hx with e | e
    · exact hp x (Or.inl (a5 x e))
    · exact hp x (Or.inr (b5 x e))
  · rcases List.mem_append.mp hx with e | e
    · exact hp x (Or.inl (a8 x e))
    · exact hp x (Or.inr (b8 x e))
theorem Gx.tr {a b c : Nat} {n1 n2 : Int} {m1 m2 m3 : hMem} {G1 G2 G3 : hG} (h1 : Gx (In a b) n1 m1 G1 m2 G2) (h2 : Gx (In b c) n2 m2 G2 m3 G3) (hab : a ≤ b) (hbc : b ≤ c) : Gx (In a c) (n1 + n2) m1 G1 m3 G3 :=
  h1.trans h2 (fun x p q => by unfold In at p q; omega) (fun x p => by unfold In at p ⊢; omega)
/-- made later, though it stands earlier -/
theorem Gx.tri {a b c : Nat} {n1 n2 n3 : Int} {m1 m2 m3 m4 : hMem} {G1 G2 G3 G4 : hG} (h1 : Gx (In (a + 1) b) n1 m1 G1 m2 G2) (h2 : Gx (In a (a + 1)) n2 m2 G2 m3 G3) (h3 : Gx (In b c) n3 m3 G3 m4 G4) (hab : a + 1 ≤ b) (hbc : b ≤ c) : Gx (In a c) (n1 + n2 + n3) m1 G1 m4 G4 :=
  Gx.tr (b := b) (h1.trans h2 (fun x p q => by unfold In at p q; omega) (fun x p => by unfold In at p ⊢; omega)) h3 (by omega) hbc
theorem Gx.mH {P : Nat → Prop} {n : Int} {m m' : hMem} {G G' : hG} (h : Gx P n m G m' G') : Ms (g_H G) (g_H G') := by
  obtain ⟨-, -, ⟨X, e, -⟩, -⟩ := h
  rw [e]; exact ms_app _ _
theorem Gx.mT {P : Nat → Prop} {n : Int} {m m' : hMem} {G G' : hG} (h : Gx P n m G m' G') : Ms (g_T G) (g_T G') := by
  obtain ⟨-, -, -, ⟨X, e, -⟩, -⟩ := h
  rw [e]; exact ms_app _ _
theorem Gx.lT {P : Nat → Prop} {n : Int} {m m' : hMem} {G G' : hG} (h : Gx P n m G m' G') {k : Int} {l : List Nat} (hk : Lr m (g_L G) (g_T G) k l) : Lr m' (g_L G') (g_T G') k l := hk.ex h.1 h.2.1 h.mT
theorem Gx.lH {P : Nat → Prop} {n : Int} {m m' : hMem} {G G' : hG} (h : Gx P n m G m' G') {k : Int} {l : List Nat} (hk : Lr m (g_L G) (g_H G) k l) : Lr m' (g_L G') (g_H G') k l := hk.ex h.1 h.2.1 h.mH
theorem Gx.k {P : Nat → Prop} {n : Int} {m m' : hMem} {G G' : hG} (h : Gx P n m G m' G') {k : Nat} (h1 : k ≠ 65) (h2 : k < 69 ∨ 76 < k) : m' k = m k := h.2.2.2.2.1 k h1 h2
theorem nodup_range {l : List Nat} {a b : Nat} (h : l.Nodup) (hl : ∀ x ∈ l, In a b x) : l.length ≤ b - a := by
  have := nodup_len (s := List.range' a (b - a)) h (fun x hx => by
    have := hl x hx
    unfold In at this
    rw [List.mem_range'_1]
    omega)
  rwa [List.length_range'] at this
theorem Gx.len {a b : Nat} {n : Int} {m m' : hMem} {G G' : hG} (h : Gx (In a b) n m G m' G') : (g_H G').length ≤ (g_H G).length + (b - a) ∧ (g_T G').length ≤ (g_T G).length + (b - a) := by
  obtain ⟨-, -, ⟨X, e, hx, hp⟩, ⟨Y, f, hy, hq⟩, -⟩ := h
  rw [e, f, List.length_append, List.length_append]
  have := nodup_range hx hp
  have := nodup_range hy hq
  omega
def Sm (A B : hA) (G : hG) : Prop := (g_H G).length + B.length ≤ 8000 + A.length ∧ (g_T G).length + B.length ≤ 8000 + A.length
theorem Sm.step {A A' B : hA} {G G' : hG} {n : Int} {m m' : hMem} (h : Sm A B G) (g : Gx (In A.length A'.length) n m G m' G') (hl : A.length ≤ A'.length) : Sm A' B G' := by
  have := g.len
  unfold Sm at h ⊢
  omega
theorem Hn.ex {B : hA} {vs : List hVr} {G G' : hG} {P : Nat → Prop} {n : Int} {m m' : hMem} {i a : Nat} (g : Gx P n m G m' G') (e1 : m' 69 i = m 69 i) (e2 : m' 70 i = m 70 i) (h : Hn B vs G m i a) : Hn B vs G' m' i a := by
  obtain ⟨h1, h2, h3, h4, h5, h6⟩ := h
  exact ⟨h1, h2, h3, by rw [e1]; exact h4, h5, by rw [e2]; exact g.lT h6⟩
theorem Tq.ex {B : hA} {G G' : hG} {P : Nat → Prop} {n : Int} {m m' : hMem} {i a : Nat} (g : Gx P n m G m' G') (e : ∀ k, 71 ≤ k → k ≤ 74 → m' k i = m k i) (h : Tq B G m i a) : Tq B G' m' i a := by
  obtain ⟨h1, h2, h3, h4, ⟨q, h5, h6⟩, h7, h8, h9⟩ := h
  exact ⟨h1, h2, h3, by rw [e 71 (by omega) (by omega)]; exact h4, ⟨q, by rw [e 72 (by omega) (by omega)]; exact h5, g.mH _ _ h6⟩, h7, by rw [e 73 (by omega) (by omega)]; exact g.lH h8, by rw [e 74 (by omega) (by omega)]; exact g.lT h9⟩
theorem Rel.mk' {B : hA} {vs : List hVr} {G G' : hG} {P : Nat → Prop} {n : Int} {m m' : hMem} (h : Rel B vs G m) (g : Gx P n m G m' G') (e13 : m' 65 13 = ((g_H G').length : Int)) (e18 : m' 65 18 = ((g_T G').length : Int)) (e21 : m' 65 21 = (g_L G' : Int)) (hb : (g_H G').length ≤ 8000 ∧ (g_T G').length ≤ 8000 ∧ g_L G' ≤ 40000)
    (oH : ∀ i, i < (g_H G).length → m' 69 i = m 69 i ∧ m' 70 i = m 70 i) (oT : ∀ i, i < (g_T G).length → ∀ k, 71 ≤ k → k ≤ 74 → m' k i = m k i) (nH : ∀ i a, (g_H G).length ≤ i → (g_H G')[i]? = some a → Hn B vs G' m' i a) (nT : ∀ i a, (g_T G).length ≤ i → (g_T G')[i]? = some a → Tq B G' m' i a) : Rel B vs G' m' := by
  obtain ⟨r1, r2, r3, r4, r5, r6, r7, r8⟩ := h
  obtain ⟨-, -, ⟨X, eH, -⟩, ⟨Y, eT, -⟩, -⟩ := id g
  refine ⟨e13, e18, e21, hb, r5.eq (g.k (by omega) (by omega)), r6, fun i a hi => ?_, fun i a hi => ?_⟩
  · by_cases c : i < (g_H G).length
    · have hi' := hi
      rw [eH, List.getElem?_append_left c] at hi'
      exact (r7 i a hi').ex g (oH i c).1 (oH i c).2
    · exact nH i a (by omega) hi
  · by_cases c : i < (g_T G).length
    · have hi' := hi
      rw [eT, List.getElem?_append_left c] at hi'
      exact (r8 i a hi').ex g (oT i c)
    · exact nT i a (by omega) hi
theorem Rel.px {B B' : hA} {vs : List hVr} {G : hG} {m : hMem} (h : Rel B vs G m) (p : Px B B') : Rel B' vs G m := by
  obtain ⟨r1, r2, r3, r4, r5, r6, r7, r8⟩ := h
  have pl := p.len
  refine ⟨r1, r2, r3, r4, r5, r6, fun i a hi => ?_, fun i a hi => ?_⟩
  · obtain ⟨h1, h2, h3, h4, h5, h6⟩ := r7 i a hi
    unfold Hn
    rw [tn_px p h2, p.g h2]
    exact ⟨h1, by omega, h3, h4, h5, h6⟩
  · obtain ⟨h1, h2, h3, h4, ⟨q, h5, h6⟩, h7, h8, h9⟩ := r8 i a hi
    unfold Tq
    rw [rk_px p h2, tn_px p h2, p.g h2, tn_px p (r7 _ _ h6).2.1]
    exact ⟨h1, by omega, h3, h4, ⟨q, h5, h6⟩, h7, h8, h9⟩
/-- the count of links may be set anew -/
theorem Rel.up22 {B : hA} {vs : List hVr} {G : hG} {m m' : hMem} (h : Rel B vs G m) (e : ∀ k, k ≠ 65 → m' k = m k) (e65 : ∀ j, j = 13 ∨ j = 18 ∨ j = 21 → m' 65 j = m 65 j) : Rel B vs G m' := by
  obtain ⟨r1, r2, r3, r4, r5, r6, r7, r8⟩ := h
  have le : ∀ {M l : List Nat} {k : Int}, Lr m (g_L G) M k l → Lr m' (g_L G) M k l := fun hk => hk.ex (fun j _ => by rw [e 75 (by omega), e 76 (by omega)]; exact ⟨rfl, rfl⟩) (Nat.le_refl _) (Ms.refl _)
  refine ⟨by rw [e65 13 (by omega)]; exact r1, by rw [e65 18 (by omega)]; exact r2, by rw [e65 21 (by omega)]; exact r3, r4, r5.eq (e 66 (by omega)), r6, fun i a hi => ?_, fun i a hi => ?_⟩
  · obtain ⟨h1, h2, h3, h4, h5, h6⟩ := r7 i a hi
    exact ⟨h1, h2, h3, by rw [e 69 (by omega)]; exact h4, h5, by rw [e 70 (by omega)]; exact le h6⟩
  · obtain ⟨h1, h2, h3, h4, ⟨q, h5, h6⟩, h7, h8, h9⟩ := r8 i a hi
    exact ⟨h1, h2, h3, by rw [e 71 (by omega)]; exact h4, ⟨q, by rw [e 72 (by omega)]; exact h5, h6⟩, h7, by rw [e 73 (by omega)]; exact le h8, by rw [e 74 (by omega)]; exact le h9⟩
section
variable {B : hA} {vs : List hVr} {G : hG} {m : hMem}
theorem r_ahead (h : Rel B vs G m) (hL : g_L G < 40000) (t : Nat) (k : Int) (P : Nat → Prop) : ∃ m', f_X11_ahead (t : Int) k m = some ((g_L G : Int), m') ∧ Rel B vs (g_H G, g_T G, g_L G + 1) m' ∧ Gx P 0 m G m' (g_H G, g_T G, g_L G + 1) ∧ ∀ (M l : List Nat) (x : Nat), M[t]? = some x → Lr m (g_L G) M k l → Lr m' (g_L G + 1) M (g_L G : Int) (x :: l) := by
  have e21 := h.2.2.1
  obtain ⟨m', em'⟩ : ∃ m' : hMem, m' = hv_up (hv_up (hv_up m 75 (g_L G) (t : Int)) 76 (g_L G) k) 65 21 ((g_L G : Int) + 1) := ⟨_, rfl⟩
  have old : ∀ j, j < g_L G → m' 75 j = m 75 j ∧ m' 76 j = m 76 j := fun j hj => by
    rw [em', hp_up_k _ _ _ _ (by omega), hp_up_k _ _ _ _ (by omega), hp_up_j _ _ _ (by omega), hp_up_k _ _ _ _ (by omega), hp_up_j _ _ _ (by omega), hp_up_k _ _ _ _ (by omega)]
    exact ⟨rfl, rfl⟩
  have oth : ∀ k', k' ≠ 65 → k' ≠ 75 → k' ≠ 76 → m' k' = m k' := fun k' a b c => by rw [em', hp_up_kk _ _ _ a, hp_up_kk _ _ _ c, hp_up_kk _ _ _ b]
  have o65 : ∀ j, j ≠ 21 → m' 65 j = m 65 j := fun j hj => by rw [em', hp_up_j _ _ _ hj, hp_up_k _ _ _ _ (by omega), hp_up_k _ _ _ _ (by omega)]
  have g : Gx P 0 m G m' (g_H G, g_T G, g_L G + 1) := ⟨old, Nat.le_succ _, ⟨[], (List.append_nil _).symm, List.nodup_nil, fun x hx => by simp at hx⟩, ⟨[], (List.append_nil _).symm, List.nodup_nil, fun x hx => by simp at hx⟩, fun k' a b => oth k' a (by omega) (by omega), fun j _ _ a _ => o65 j a, by rw [o65 22 (by omega)]; omega⟩
  refine ⟨m', ?_, h.mk' g (by rw [o65 13 (by omega)]; exact h.1) (by rw [o65 18 (by omega)]; exact h.2.1) (by rw [em', hp_up_same]; rfl) ⟨h.2.2.2.1.1, h.2.2.2.1.2.1, hL⟩ (fun i _ => by rw [oth 69 (by omega) (by omega) (by omega), oth 70 (by omega) (by omega) (by omega)]; exact ⟨rfl, rfl⟩) (fun i _ k' a b => by rw [oth k' (by omega) (by omega) (by omega)]) (fun i a hi hg => absurd (get_lt hg) (Nat.not_lt.mpr hi)) (fun i a hi hg => absurd (get_lt hg) (Nat.not_lt.mpr hi)), g, fun M l x hx hk => ⟨g_L G, t, rfl, Nat.lt_succ_self _, ?_, hx, ?_⟩⟩
  · unfold f_X11_ahead
    have z : ∀ (mm : hMem) (k' : Nat) (v : Int), k' ≠ 65 → hv_up mm k' (g_L G) v 65 21 = mm 65 21 := fun mm k' v hk' => hp_up_k _ _ _ _ (Ne.symm hk')
    rw [e21, hp_ast (by omega) (by omega), Int.toNat_natCast, z _ _ _ (by omega), e21, hp_ast (by omega) (by omega), Int.toNat_natCast, hp_put, z _ _ _ (by omega), z _ _ _ (by omega), e21, ← em', show m' 65 21 - 1 = (g_L G : Int) by rw [em', hp_up_same]; omega]
    rfl
  · rw [em', hp_up_k _ _ _ _ (by omega), hp_up_k _ _ _ _ (by omega), hp_up_same]
  · rw [show m' 76 (g_L G) = k by rw [em', hp_up_k _ _ _ _ (by omega), hp_up_same]]
    exact hk.ex old (Nat.le_succ _) (Ms.refl _)
theorem r_heap (h : Rel B vs G m) (hH : (g_H G).length < 8000) {a : Nat} {k : Int} (ha0 : 0 < a) (ha : a < B.length) (hd : n_head (a_g B a) = 0) (hj : Jt vs (tn B a)) (hk : Lr m (g_L G) (g_T G) k (n_bl (a_g B a))) : ∃ m', f_X11_heap ((tn B a % 30 : Nat) : Int) k m = some (((g_H G).length : Int), m') ∧ Rel B vs (g_H G ++ [a], g_T G, g_L G) m' ∧ Gx (In a (a + 1)) 0 m G m' (g_H G ++ [a], g_T G, g_L G) := by
  have e13 := h.1
  obtain ⟨m', em'⟩ : ∃ m' : hMem, m' = hv_up (hv_up (hv_up m 69 (g_H G).length ((tn B a % 30 : Nat) : Int)) 70 (g_H G).length k) 65 13 (((g_H G).length : Int) + 1) := ⟨_, rfl⟩
  have oth : ∀ k', k' ≠ 65 → k' ≠ 69 → k' ≠ 70 → m' k' = m k' := fun k' a b c => by rw [em', hp_up_kk _ _ _ a, hp_up_kk _ _ _ c, hp_up_kk _ _ _ b]
  have o65 : ∀ j, j ≠ 13 → m' 65 j = m 65 j := fun j hj => by rw [em', hp_up_j _ _ _ hj, hp_up_k _ _ _ _ (by omega), hp_up_k _ _ _ _ (by omega)]
  have n69 : m' 69 (g_H G).length = ((tn B a % 30 : Nat) : Int) := by rw [em', hp_up_k _ _ _ _ (by omega), hp_up_k _ _ _ _ (by omega), hp_up_same]
  have n70 : m' 70 (g_H G).length = k := by rw [em', hp_up_k _ _ _ _ (by omega), hp_up_same]
  have g : Gx (In a (a + 1)) 0 m G m' (g_H G ++ [a], g_T G, g_L G) := ⟨fun j _ => by rw [oth 75 (by omega) (by omega) (by omega), oth 76 (by omega) (by omega) (by omega)]; exact ⟨rfl, rfl⟩, Nat.le_refl _, ⟨[a], rfl, by simp, fun x hx => by simp at hx; unfold In; omega⟩, ⟨[], (List.append_nil _).symm, List.nodup_nil, fun x hx => by simp at hx⟩, fun k' a b => oth k' a (by omega) (by omega), fun j a _ _ _ => o65 j a, by rw [o65 22 (by omega)]; omega⟩
  have hl : (g_H (g_H G ++ [a], g_T G, g_L G)).length = (g_H G).length + 1 := by show (g_H G ++ [a]).length = _; simp
  refine ⟨m', ?_, h.mk' g (by rw [hl, em', hp_up_same]; omega) (by rw [o65 18 (by omega)]; exact h.2.1) (by rw [o65 21 (by omega)]; exact h.2.2.1) ⟨by omega, h.2.2.2.1.2.1, h.2.2.2.1.2.2⟩ (fun i hi => ?_) (fun i _ k' a b => by rw [oth k' (by omega) (by omega) (by omega)]) (fun i c hi hg => ?_) (fun i a hi hg => absurd (get_lt hg) (Nat.not_lt.mpr hi)), g⟩
  · unfold f_X11_heap
    have z : ∀ (mm : hMem) (k' : Nat) (v : Int), k' ≠ 65 → hv_up mm k' (g_H G).length v 65 13 = mm 65 13 := fun mm k' v hk' => hp_up_k _ _ _ _ (Ne.symm hk')
    rw [e13, hp_ast (by omega) (by omega), Int.toNat_natCast, z _ _ _ (by omega), e13, hp_ast (by omega) (by omega), Int.toNat_natCast, hp_put, z _ _ _ (by omega), z _ _ _ (by omega), e13, ← em', show m' 65 13 - 1 = ((g_H G).length : Int) by rw [em', hp_up_same]; omega]
    rfl
  · rw [em', hp_up_k _ _ _ _ (by omega), hp_up_k _ _ _ _ (by omega), hp_up_j _ _ _ (by omega), hp_up_k _ _ _ _ (by omega), hp_up_j _ _ _ (by omega), hp_up_k _ _ _ _ (by omega)]
    exact ⟨rfl, rfl⟩
  · obtain ⟨ei, ec⟩ := get_snoc hg hi
    rw [ei, ec]
    exact ⟨ha0, ha, hd, n69, hj, by rw [n70]; exact g.lT hk⟩
theorem r_tree (h : Rel B vs G m) (hT : (g_T G).length < 8000) {a hh : Nat} {ks kb : Int} (ha0 : 0 < a) (ha : a < B.length) (hd : n_head (a_g B a) ≠ 0) (hg : (g_H G)[hh]? = some (n_head (a_g B a))) (ht : tn B a = tn B (n_head (a_g B a))) (hs : Lr m (g_L G) (g_H G) ks (n_sg (a_g B a))) (hk : Lr m (g_L G) (g_T G) kb (n_bl (a_g B a))) :
    ∃ m', f_X11_tree (rk B a : Int) (hh : Int) ks kb m = some (((g_T G).length : Int), m') ∧ Rel B vs (g_H G, g_T G ++ [a], g_L G) m' ∧ Gx (In a (a + 1)) 0 m G m' (g_H G, g_T G ++ [a], g_L G) := by
  have e18 := h.2.1
  obtain ⟨m', em'⟩ : ∃ m' : hMem, m' = hv_up (hv_up (hv_up (hv_up (hv_up m 71 (g_T G).length (rk B a : Int)) 72 (g_T G).length (hh : Int)) 73 (g_T G).length ks) 74 (g_T G).length kb) 65 18 (((g_T G).length : Int) + 1) := ⟨_, rfl⟩
  have oth : ∀ k', k' ≠ 65 → k' < 71 ∨ 74 < k' → m' k' = m k' := fun k' a b => by rw [em', hp_up_kk _ _ _ a, hp_up_kk _ _ _ (by omega), hp_up_kk _ _ _ (by omega), hp_up_kk _ _ _ (by omega), hp_up_kk _ _ _ (by omega)]
  have o65 : ∀ j, j ≠ 18 → m' 65 j = m 65 j := fun j hj => by rw [em', hp_up_j _ _ _ hj, hp_up_k _ _ _ _ (by omega), hp_up_k _ _ _ _ (by omega), hp_up_k _ _ _ _ (by omega), hp_up_k _ _ _ _ (by omega)]
  have n71 : m' 71 (g_T G).length = (rk B a : Int) := by rw [em', hp_up_k _ _ _ _ (by omega), hp_up_k _ _ _ _ (by omega), hp_up_k _ _ _ _ (by omega), hp_up_k _ _ _ _ (by omega), hp_up_same]
  have n72 : m' 72 (g_T G).length = (hh : Int) := by rw [em', hp_up_k _ _ _ _ (by omega), hp_up_k _ _ _ _ (by omega), hp_up_k _ _ _ _ (by omega), hp_up_same]
  have n73 : m' 73 (g_T G).length = ks := by rw [em', hp_up_k _ _ _ _ (by omega), hp_up_k _ _ _ _ (by omega), hp_up_same]
  have n74 : m' 74 (g_T G).length = kb := by rw [em', hp_up_k _ _ _ _ (by omega), hp_up_same]
  have g : Gx (In a (a + 1)) 0 m G m' (g_H G, g_T G ++ [a], g_L G) := ⟨fun j _ => by rw [oth 75 (by omega) (by omega), oth 76 (by omega) (by omega)]; exact ⟨rfl, rfl⟩, Nat.le_refl _, ⟨[], (List.append_nil _).symm, List.nodup_nil, fun x hx => by simp at hx⟩, ⟨[a], rfl, by simp, fun x hx => by simp at hx; unfold In; omega⟩, fun k' a b => oth k' a (by omega), fun j _ a _ _ => o65 j a, by rw [o65 22 (by omega)]; omega⟩
  have hl : (g_T (g_H G, g_T G ++ [a], g_L G)).length = (g_T G).length + 1 := by show (g_T G ++ [a]).length = _; simp
  refine ⟨m', ?_, h.mk' g (by rw [o65 13 (by omega)]; exact h.1) (by rw [hl, em', hp_up_same]; omega) (by rw [o65 21 (by omega)]; exact h.2.2.1) ⟨h.2.2.2.1.1, by omega, h.2.2.2.1.2.2⟩ (fun i hi => by rw [oth 69 (by omega) (by omega), oth 70 (by omega) (by omega)]; exact ⟨rfl, rfl⟩) (fun i hi k' a b => ?_) (fun i a hi hg => absurd (get_lt hg) (Nat.not_lt.mpr hi)) (fun i c hi hc => ?_), g⟩
  · unfold f_X11_tree
    have z : ∀ (mm : hMem) (k' : Nat) (v : Int), k' ≠ 65 → hv_up mm k' (g_T G).length v 65 18 = mm 65 18 := fun mm k' v hk' => hp_up_k _ _ _ _ (Ne.symm hk')
    rw [e18, hp_ast (by omega) (by omega), Int.toNat_natCast, z _ _ _ (by omega), e18, hp_ast (by omega) (by omega), Int.toNat_natCast, z _ _ _ (by omega), z _ _ _ (by omega), e18, hp_ast (by omega) (by omega), Int.toNat_natCast, z _ _ _ (by omega), z _ _ _ (by omega), z _ _ _ (by omega), e18, hp_ast (by omega) (by omega), Int.toNat_natCast, hp_put, z _ _ _ (by omega), z _ _ _ (by omega), z _ _ _ (by omega), z _ _ _ (by omega), e18, ← em', show m' 65 18 - 1 = ((g_T G).length : Int) by rw [em', hp_up_same]; omega]
    rfl
  · have u : ∀ (mm : hMem) (q : Nat) (v : Int), hv_up mm q (g_T G).length v k' i = mm k' i := fun mm q v => by
      by_cases c : k' = q
      · rw [c]; exact hp_up_j _ _ _ (by omega)
      · exact hp_up_k _ _ _ _ c
    rw [em', hp_up_k _ _ _ _ (by omega), u, u, u, u]
  · obtain ⟨ei, ec⟩ := get_snoc hc hi
    rw [ei, ec]
    exact ⟨ha0, ha, hd, n71, ⟨hh, n72, hg⟩, ht, by rw [n73]; exact g.lH hs, by rw [n74]; exact g.lT hk⟩
theorem r_jobLess (hM : RM vs m) (h30 : vs.length ≤ 30) {t u : Nat} (ht : Jt vs t) (hu : Jt vs u) : f_X11_isJobLess ((t % 30 : Nat) : Int) ((u % 30 : Nat) : Int) m = some (if t < u then 1 else 0, m) := by
  obtain ⟨t1, c, t2, t3, -⟩ := ht
  obtain ⟨u1, d, u2, u3, -⟩ := hu
  have k1 := (hM.2.2.2 _ _ _ t2).1
  have k2 := (hM.2.2.2 _ _ _ u2).1
  unfold f_X11_isJobLess
  rw [hp_ald (by omega) (by omega), hp_ald (by omega) (by omega), show ((126 : Int) + ((t % 30 : Nat) : Int)).toNat = 126 + t % 30 by omega, show ((126 : Int) + ((u % 30 : Nat) : Int)).toNat = 126 + u % 30 by omega, k1, k2]
  by_cases c1 : t / 30 < u / 30
  · rw [hp_lt_t (by omega) (by omega) (by omega), if_pos (by omega), hp_zr1]
  · rw [hp_lt_f (by omega) (by omega) (by omega), hp_ald (by omega) (by omega), hp_ald (by omega) (by omega), show ((126 : Int) + ((t % 30 : Nat) : Int)).toNat = 126 + t % 30 by omega, show ((126 : Int) + ((u % 30 : Nat) : Int)).toNat = 126 + u % 30 by omega, k1, k2]
    by_cases c2 : t / 30 = u / 30
    · rw [hp_eq_t (by omega) (by omega) (by omega)]
      by_cases c3 : t % 30 < u % 30
      · rw [hp_lt_t (by omega) (by omega) (by omega), if_pos (by omega), hp_zr1]
      · rw [hp_lt_f (by omega) (by omega) (by omega), if_neg (by omega), hp_zr0]
    · rw [hp_eq_f (by omega) (by omega) (by omega), if_neg (by omega), hp_zr0]
theorem Rel.h8 (h : Rel B vs G m) {i a : Nat} (hi : (g_H G)[i]? = some a) : i < 8000 := by
  have := get_lt hi
  have := h.2.2.2.1.1
  omega
theorem Rel.t8 (h : Rel B vs G m) {i a : Nat} (hi : (g_T G)[i]? = some a) : i < 8000 := by
  have := get_lt hi
  have := h.2.2.2.1.2.1
  omega
theorem r_isLess (h : Rel B vs G m) {i j a b : Nat} (hi : (g_H G)[i]? = some a) (hj : (g_H G)[j]? = some b) : f_X11_isLess (i : Int) (j : Int) m = some (if tn B a < tn B b then 1 else 0, m) := by
  obtain ⟨-, -, -, a4, a5, -⟩ := h.2.2.2.2.2.2.1 i a hi
  obtain ⟨-, -, -, b4, b5, -⟩ := h.2.2.2.2.2.2.1 j b hj
  have i8 := h.h8 hi
  have j8 := h.h8 hj
  unfold f_X11_isLess
  rw [hp_ald (by omega) (by omega), hp_ald (by omega) (by omega), Int.toNat_natCast, Int.toNat_natCast, a4, b4, r_jobLess h.2.2.2.2.1 h.2.2.2.2.2.1 a5 b5, hp_b]
  by_cases c : tn B a < tn B b
  · rw [if_pos c, hp_zr1]
  · rw [if_neg c, hp_zr0]
end
