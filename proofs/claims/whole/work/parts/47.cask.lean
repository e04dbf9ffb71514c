/-! the class's heaps: lengths, trees, links, emptying -/
theorem c_lenL {c R : Nat} {m : hMem} (hR : R ≤ 2592) (h8 : m (c + 8) 0 = 0) (h9 : m (c + 9) 0 = 0) : ∀ (l : List Nat) (n i : Nat) (k : Int), l.length < n → i + l.length ≤ 2592 → Rw c m R k l → L_X1_lengthOf_4 c n (i : Int) k m = some (((i + l.length : Nat) : Int), m)
  | [], 0, _, _, hn, _, _ => by simp at hn
  | x :: l, 0, _, _, hn, _, _ => by simp at hn
  | [], n + 1, i, k, hn, hi, hk => by
    have k0 : k = 0 := hk
    show B_X1_lengthOf_4 c (L_X1_lengthOf_4 c n) (i : Int) k m = _
    unfold B_X1_lengthOf_4
    rw [hp_eq_t (by omega) (by decide) k0]
    rfl
  | x :: l, n + 1, i, k, hn, hi, hk => by
    simp only [List.length_cons] at hn hi
    have hk0 : k ≠ 0 := fun e => by have := hk.nil_iff.mp e; cases this
    have hkl := hk.lt hR
    obtain ⟨kr, r1, r2⟩ := rw_rest hk hR h9
    have r2 : Rw c m R kr l := r2
    show B_X1_lengthOf_4 c (L_X1_lengthOf_4 c n) (i : Int) k m = _
    unfold B_X1_lengthOf_4
    rw [hp_eq_f (by omega) (by decide) (by omega), hp_lt_t (by omega) (by omega) (by omega), hp_set, r1, hp_b]
    have g := c_lenL hR h8 h9 l n (i + 1) kr (by omega) (by omega) r2
    rw [show ((i + (x :: l).length : Nat) : Int) = ((i + 1 + l.length : Nat) : Int) by simp only [List.length_cons]; omega]
    exact g
theorem c_length {c : Nat} {A : hA} {R : Nat} {m : hMem} (h : Ce c A R m) {k : Int} {l : List Nat} (hk : Rw c m R k l) (hl : l.length ≤ 2592) : f_X1_lengthOf c k m = some ((l.length : Int), m) := by
  unfold f_X1_lengthOf
  have g := c_lenL h.2.2.2.2.2.1 h.2.2.2.2.2.2.1 h.2.2.2.2.2.2.2.1 l hv_FU 0 k (fu_lt (by omega)) (by omega) hk
  rw [Nat.zero_add] at g
  exact g
theorem Tb.lt {law : Nat} {A : hA} (hw : Wf law A) {t : Nat} {l : List Nat} (h : Tb A t l) : t < A.length := by
  rcases h with ⟨h1, h2⟩ | ⟨h1, h2⟩
  · have := hw.1; omega
  · exact (h1 t (by simp)).2.1
theorem Tb.q24 {law : Nat} {A : hA} (hw : Wf law A) {t : Nat} {l : List Nat} (h : Tb A t l) : (n_bl (a_g A t)).length < 6 ∧ Tl A (n_bl (a_g A t)) := by
  rcases h with ⟨h1, h2⟩ | ⟨h1, h2⟩
  · rw [h1, hw.2.1]
    exact ⟨by show 0 < 6; omega, fun x hx => by have hx : x ∈ ([] : List Nat) := hx; simp at hx⟩
  · obtain ⟨hq, hkk, hl23, -⟩ := heap_q hw h1
    exact ⟨szq_lt (Nat.le_trans (wk_size hw hq hkk.2.1) hl23), hq⟩
theorem v_treesOf {b law : Nat} (hlaw : law = 0 ∨ law = 1) {vs : List hVr} {Rs : Nat → Nat} {m : hMem} (h : HR b law vs Rs m) (ho : Os vs) {j : Nat} (hj : j < vs.length) : f_X2_treesOf b (j : Int) m = some (((n_bl (a_g (h_all law 99 vs).1 ((h_all law 99 vs).2.1.getD j 0))).length : Int), m) := by
  obtain ⟨i1, i2, i3, i4, i5⟩ := hi_all hlaw 99 vs ho
  have hc := h.ce
  obtain ⟨k, b1, b2⟩ := ce_below hc ((i5 j hj).1.lt i1)
  have q := ((i5 j hj).1.q24 i1).1
  unfold f_X2_treesOf
  rw [v_heapOf h ho.1 hj, hp_b, b1, hp_b, c_length hc b2 (by omega), hp_b]
  rfl
theorem c_treeL {b : Nat} {A : hA} {R : Nat} {m : hMem} (h : Ce (b + 1) A R m) (x : Int) (hx : hv_R32 x) : ∀ (l : List Nat) (n i : Nat) (k : Int), l.length < n → (i : Int) ≤ x → i + l.length ≤ 2592 → Rw (b + 1) m R k l → L_X2_treeOf_16 b n x k (i : Int) m = some (((l.getD (x.toNat - i) 0 : Nat) : Int), m)
  | [], 0, _, _, hn, _, _, _ => by simp at hn
  | y :: l, 0, _, _, hn, _, _, _ => by simp at hn
  | [], n + 1, i, k, hn, hi, hi2, hk => by
    have k0 : k = 0 := hk
    show B_X2_treeOf_16 b (L_X2_treeOf_16 b n) x k (i : Int) m = _
    unfold B_X2_treeOf_16 J_X2_treeOf_41
    have e : ∀ z, hv_lt (i : Int) x z z = z := fun z => by
      by_cases c : (i : Int) < x
      · rw [hp_lt_t (by omega) hx c]
      · rw [hp_lt_f (by omega) hx (by omega)]
    rw [hp_eq_t (by omega) (by decide) k0, e, ce_first h hk, hp_b]
    simp [hv_ret]
  | y :: l, n + 1, i, k, hn, hi, hi2, hk => by
    simp only [List.length_cons] at hn hi2
    have hk0 : k ≠ 0 := fun e => by have := hk.nil_iff.mp e; cases this
    have hkl := hk.lt h.2.2.2.2.2.1
    obtain ⟨kr, r1, r2⟩ := ce_rest h hk
    have r2 : Rw (b + 1) m R kr l := r2
    show B_X2_treeOf_16 b (L_X2_treeOf_16 b n) x k (i : Int) m = _
    unfold B_X2_treeOf_16 J_X2_treeOf_41
    by_cases c : (i : Int) < x
    · rw [hp_lt_t (by omega) hx c, hp_eq_f (by omega) (by decide) (by omega), r1, hp_b, hp_set]
      have g := c_treeL h x hx l n (i + 1) kr (by omega) (by omega) (by omega) r2
      obtain ⟨d, hd⟩ : ∃ d, x.toNat - i = d + 1 := ⟨x.toNat - i - 1, by omega⟩
      rw [hd, List.getD_cons_succ, show d = x.toNat - (i + 1) by omega]
      exact g
    · rw [hp_lt_f (by omega) hx (by omega), ce_first h hk, hp_b]
      rw [show x.toNat - i = 0 by omega]
      rfl
theorem v_treeOf {b law : Nat} (hlaw : law = 0 ∨ law = 1) {vs : List hVr} {Rs : Nat → Nat} {m : hMem} (h : HR b law vs Rs m) (ho : Os vs) {j : Nat} (hj : j < vs.length) {x : Int} (hx : hv_R32 x) (hx0 : 0 ≤ x) : f_X2_treeOf b (j : Int) x m = some ((((n_bl (a_g (h_all law 99 vs).1 ((h_all law 99 vs).2.1.getD j 0))).getD x.toNat 0 : Nat) : Int), m) := by
  obtain ⟨i1, i2, i3, i4, i5⟩ := hi_all hlaw 99 vs ho
  have hc := h.ce
  obtain ⟨k, b1, b2⟩ := ce_below hc ((i5 j hj).1.lt i1)
  have q := ((i5 j hj).1.q24 i1).1
  unfold f_X2_treeOf
  rw [v_heapOf h ho.1 hj, hp_b, b1, hp_b]
  exact c_treeL hc x hx _ hv_FU 0 k (fu_lt (by omega)) hx0 (by omega) b2
def sumL : List Nat → Nat
  | [] => 0
  | x :: l => x + sumL l
theorem sumL_app (a b : List Nat) : sumL (a ++ b) = sumL a + sumL b := by
  induction a with
  | nil => simp [sumL]
  | cons x a ih => simp only [List.cons_append, sumL, ih]; omega
theorem v_linksL {b law : Nat} {vs : List hVr} {Rs : Nat → Nat} {m : hMem} (h : HR b law vs Rs m) (h30 : vs.length ≤ 30) (hl : (h_all law 99 vs).2.2.length = vs.length) : ∀ (d n i s : Nat), i + d = vs.length → d < n → L_X2_linksOfAll_4 b n (s : Int) (i : Int) m = some (((s + sumL ((h_all law 99 vs).2.2.drop i) : Nat) : Int), m)
  | d, 0, _, _, _, hn => by omega
  | 0, n + 1, i, s, hi, hn => by
    show B_X2_linksOfAll_4 b (L_X2_linksOfAll_4 b n) (s : Int) (i : Int) m = _
    unfold B_X2_linksOfAll_4
    rw [h.2.1, hp_lt_f (by omega) (by omega) (by omega), List.drop_eq_nil_of_le (by omega)]
    rfl
  | d + 1, n + 1, i, s, hi, hn => by
    show B_X2_linksOfAll_4 b (L_X2_linksOfAll_4 b n) (s : Int) (i : Int) m = _
    unfold B_X2_linksOfAll_4
    rw [h.2.1, hp_lt_t (by omega) (by omega) (by omega), v_linksOf h h30 (by omega), hp_b, hp_set, hp_set]
    have g := v_linksL h h30 hl d n (i + 1) (s + (h_all law 99 vs).2.2.getD i 0) (by omega) (by omega)
    have e : (h_all law 99 vs).2.2.drop i = (h_all law 99 vs).2.2.getD i 0 :: (h_all law 99 vs).2.2.drop (i + 1) := by
      rw [List.drop_eq_getElem_cons (by omega)]
      simp [List.getD_eq_getElem?_getD, List.getElem?_eq_getElem (show i < (h_all law 99 vs).2.2.length by omega)]
    rw [e]
    show _ = some (((s + ((h_all law 99 vs).2.2.getD i 0 + sumL ((h_all law 99 vs).2.2.drop (i + 1))) : Nat) : Int), m)
    rw [← Nat.add_assoc]
    exact g
theorem v_linksOfAll {b law : Nat} (hlaw : law = 0 ∨ law = 1) {vs : List hVr} {Rs : Nat → Nat} {m : hMem} (h : HR b law vs Rs m) (ho : Os vs) : f_X2_linksOfAll b m = some ((sumL (h_all law 99 vs).2.2 : Int), m) := by
  have h30 := ho.1
  have g := v_linksL h h30 (hi_all hlaw 99 vs ho).2.2.1 vs.length hv_FU 0 0 (by omega) (fu_lt (by omega))
  rw [Nat.zero_add, List.drop_zero] at g
  exact g
/-- till it is empty: all links, the most of one -/
def s_drain (law : Nat) : Nat → hA → Nat → Nat × Nat
  | 0, _, _ => (0, 0)
  | n + 1, A, h => ((s_take law A h).2.2 + (s_drain law n (s_take law A h).1 (s_take law A h).2.1).1, max (s_take law A h).2.2 (s_drain law n (s_take law A h).1 (s_take law A h).2.1).2)
theorem c_take0 {law b : Nat} {A : hA} {R h : Nat} {m : hMem} (hc : Ce (b + 1) A R m) (hlt : h < A.length) (e : n_bl (a_g A h) = []) : f_X2_take b (h : Int) m = some (0, m) := by
  obtain ⟨k, b1, b2⟩ := ce_below hc hlt
  rw [e] at b2
  have k0 : k = 0 := b2
  unfold f_X2_take
  rw [b1, hp_b, hp_eq_t (by omega) (by decide) k0]
  rfl
theorem take_any {law b : Nat} {A : hA} {R h : Nat} {l : List Nat} {m : hMem} (hc : Ce (b + 1) A R m) (hw : Wf law A) (hlaw : law = 0 ∨ law = 1) (hb : m b 0 = (law : Int)) (hh : Tb A h l) (hs : So l) (hR : l.length ≤ 1 ∨ (R + 60 ≤ 2592 ∧ A.length + 24 ≤ 864)) :
    ∃ m' R', f_X2_take b (h : Int) m = some (((s_take law A h).2.1 : Int), m') ∧ R ≤ R' ∧ R' ≤ R + 46 ∧ Ce (b + 1) (s_take law A h).1 R' m' ∧ Ex (b + 1) A.length R m m' ∧ Fa b ((s_take law A h).2.2 : Int) m m' := by
  rcases hR with hR | hR
  · have e : n_bl (a_g A h) = [] := by
      rcases hh with ⟨h1, h2⟩ | ⟨h1, h2⟩
      · rw [h1, hw.2.1]; rfl
      · have hp := (heap_head hw h1 h2 hs).2
        have hpl := hp.length_eq
        rw [List.length_tail] at hpl
        have z := fm_len hw (heap_q hw h1).1.al
        exact List.length_eq_zero_iff.mp (by omega)
    have es : s_take law A h = (A, 0, 0) := by unfold s_take; rw [e]
    rw [es]
    exact ⟨m, R, c_take0 (law := law) hc (hh.lt hw) e, Nat.le_refl _, by omega, hc, Ex.refl _ _ _ _, Fa.refl _ _⟩
  · exact c_take hc hw hlaw hb hh.or hR.1 hR.2
def Fq (b : Nat) (m m' : hMem) : Prop := (∀ k, k < b ∨ (b + 11 ≤ k ∧ k ≠ b + 15) → m' k = m k) ∧ ∀ j, j ≠ 8 → j ≠ 9 → m' b j = m b j
theorem Fq.trans {b : Nat} {m1 m2 m3 : hMem} (h1 : Fq b m1 m2) (h2 : Fq b m2 m3) : Fq b m1 m3 := ⟨fun k hk => (h2.1 k hk).trans (h1.1 k hk), fun j h3 h4 => (h2.2 j h3 h4).trans (h1.2 j h3 h4)⟩
theorem Fa.fq {b : Nat} {n : Int} {m m' : hMem} (h : Fa b n m m') : Fq b m m' := ⟨h.1, fun j h1 _ => h.2.1 j h1⟩
theorem Fq.up8 (b : Nat) (v : Int) (m : hMem) : Fq b m (hv_up m b 8 v) := ⟨fun k hk => hp_up_kk m _ _ (by omega), fun j h1 h2 => hp_up_j _ _ _ h1⟩
theorem Fq.up9 (b : Nat) (v : Int) (m : hMem) : Fq b m (hv_up m b 9 v) := ⟨fun k hk => hp_up_kk m _ _ (by omega), fun j h1 h2 => hp_up_j _ _ _ h2⟩
theorem ex_upb {b n R j : Nat} {v : Int} (m : hMem) : Ex (b + 1) n R m (hv_up m b j v) := Ex.of_eq (fun k h1 h2 => hp_up_kk m _ _ (by omega))
theorem c_drainL {law b : Nat} (hlaw : law = 0 ∨ law = 1) (c0 r0 : Int) : ∀ (n i : Nat) {A : hA} {R h sum most : Nat} {l : List Nat} {m : hMem}, Ce (b + 1) A R m → Wf law A → m b 0 = (law : Int) → Tb A h l → So l → i + l.length ≤ 24 → A.length ≤ 481 + 16 * i → R ≤ 1381 + 46 * i → m b 9 = (most : Int) → most ≤ 1000 → 24 < n + i →
    ∃ m', L_X2_linksToEmpty_34 b n c0 r0 (sum : Int) (h : Int) (i : Int) m = some (((sum + (s_drain law l.length A h).1 : Nat) : Int), m') ∧ m' b 9 = ((max most (s_drain law l.length A h).2 : Nat) : Int) ∧ m' (b + 1) 9 = c0 ∧ m' (b + 1) 10 = r0 ∧ Ex (b + 1) A.length R m m' ∧ Fq b m m'
  | 0, i, A, R, h, sum, most, l, m, hc, hw, hb, hh, hs, hi, hA, hR, h9, hmo, hn => by omega
  | n + 1, i, A, R, h, sum, most, l, m, hc, hw, hb, hh, hs, hi, hA, hR, h9, hmo, hn => by
    have hlt := hh.lt hw
    have hz := hh.zero hw
    have hAl := hc.lt
    have fin : h = 0 → L_X2_linksToEmpty_34 b (n + 1) c0 r0 (sum : Int) (h : Int) (i : Int) m = some ((sum : Int), hv_up (hv_up m (b + 1) 9 c0) (b + 1) 10 r0) := fun h0 => by
      show B_X2_linksToEmpty_34 b (L_X2_linksToEmpty_34 b n) c0 r0 (sum : Int) (h : Int) (i : Int) m = _
      have hJ : J_X2_linksToEmpty_89 b c0 r0 (sum : Int) m = some ((sum : Int), hv_up (hv_up m (b + 1) 9 c0) (b + 1) 10 r0) := by
        unfold J_X2_linksToEmpty_89 f_X1_cut
        rw [hp_put, hp_put]
        rfl
      unfold B_X2_linksToEmpty_34
      by_cases c : i < 24
      · rw [hp_lt_t (by omega) (by decide) (by omega), hp_eq_t (by omega) (by decide) (by omega), hJ]
      · rw [hp_lt_f (by omega) (by decide) (by omega), hJ]
    by_cases h0 : h = 0
    · have el := hz.mp h0
      refine ⟨hv_up (hv_up m (b + 1) 9 c0) (b + 1) 10 r0, ?_, ?_, ?_, ?_, ⟨fun j hj => ⟨?_, ?_⟩, fun a ha i h1 h2 => ?_⟩, ⟨fun k hk => ?_, fun j h1 h2 => ?_⟩⟩
      · rw [fin h0, el]; rfl
      · rw [hp_up_k _ _ _ _ (by omega), hp_up_k _ _ _ _ (by omega), h9, el]
        show (most : Int) = ((max most 0 : Nat) : Int)
        omega
      · rw [hp_up_j _ _ _ (by omega), hp_up_same]
      · rw [hp_up_same]
      · rw [hp_up_k _ _ _ _ (by omega), hp_up_k _ _ _ _ (by omega)]
      · rw [hp_up_k _ _ _ _ (by omega), hp_up_k _ _ _ _ (by omega)]
      · rw [hp_up_k _ _ _ _ (by omega), hp_up_k _ _ _ _ (by omega)]
      · rw [hp_up_kk _ _ _ (by omega), hp_up_kk _ _ _ (by omega)]
      · rw [hp_up_k _ _ _ _ (by omega), hp_up_k _ _ _ _ (by omega)]
    · have hl0 : 1 ≤ l.length := ne_pos (fun e => h0 (hz.mpr e))
      have hi' : i < 24 := by omega
      obtain ⟨m1, em1⟩ : ∃ m1 : hMem, m1 = hv_up m b 8 0 := ⟨_, rfl⟩
      have hc1 : Ce (b + 1) A R m1 := by rw [em1]; exact hc.eq (fun k k1 k2 => hp_up_kk m _ _ (by omega))
      obtain ⟨m2, R2, t1, t2, t3, t4, t5, t6⟩ := take_any (b := b) hc1 hw hlaw (by rw [em1, hp_up_j _ _ _ (by omega)]; exact hb) hh hs (by
        by_cases c : l.length ≤ 1
        · exact Or.inl c
        · exact Or.inr ⟨by omega, by omega⟩)
      obtain ⟨w1, w2, w3, w4, w5⟩ := take_tb hw hlaw hh hs
      have b8 : m2 b 8 = ((s_take law A h).2.2 : Int) := by rw [t6.2.2, em1, hp_up_same]; omega
      have b9 : m2 b 9 = (most : Int) := by rw [t6.b0 (by omega), em1, hp_up_j _ _ _ (by omega)]; exact h9
      obtain ⟨m3, em3⟩ : ∃ m3 : hMem, m3 = hv_up m2 b 9 (max (most : Int) ((s_take law A h).2.2 : Int)) := ⟨_, rfl⟩
      have hc3 : Ce (b + 1) (s_take law A h).1 R2 m3 := by rw [em3]; exact t4.eq (fun k k1 k2 => hp_up_kk m2 _ _ (by omega))
      have b03 : m3 b 0 = (law : Int) := by rw [em3, hp_up_j _ _ _ (by omega), t6.b0 (by omega), em1, hp_up_j _ _ _ (by omega)]; exact hb
      have tl : l.tail.length = l.length - 1 := List.length_tail
      obtain ⟨m', g1, g2, g3, g4, g5, g6⟩ := c_drainL hlaw c0 r0 n (i + 1) (sum := sum + (s_take law A h).2.2) (most := max most (s_take law A h).2.2) hc3 w1 b03 w3 hs.tail (by omega) (by omega) (by omega) (by rw [em3, hp_up_same]; omega) (by omega) (by omega)
      have ed : s_drain law l.length A h = ((s_take law A h).2.2 + (s_drain law l.tail.length (s_take law A h).1 (s_take law A h).2.1).1, max (s_take law A h).2.2 (s_drain law l.tail.length (s_take law A h).1 (s_take law A h).2.1).2) := by
        obtain ⟨d, hd⟩ : ∃ d, l.length = d + 1 := ⟨l.length - 1, by omega⟩
        rw [tl, hd]
        rfl
      rw [ed]
      refine ⟨m', ?_, ?_, g3, g4, ?_, ?_⟩
      · show B_X2_linksToEmpty_34 b (L_X2_linksToEmpty_34 b n) c0 r0 (sum : Int) (h : Int) (i : Int) m = _
        unfold B_X2_linksToEmpty_34
        rw [hp_lt_t (by omega) (by decide) (by omega), hp_eq_f (by omega) (by decide) (by omega), hp_put, ← em1, t1, hp_b, hp_set, b8, b9, fe_max (by omega) (by omega), hp_b, hp_put, ← em3, hp_set]
        rw [show (((sum + ((s_take law A h).2.2 + (s_drain law l.tail.length (s_take law A h).1 (s_take law A h).2.1).1) : Nat)) : Int) = ((sum + (s_take law A h).2.2 + (s_drain law l.tail.length (s_take law A h).1 (s_take law A h).2.1).1 : Nat) : Int) by omega]
        exact g1
      · rw [g2]
        show ((max (max most (s_take law A h).2.2) (s_drain law l.tail.length (s_take law A h).1 (s_take law A h).2.1).2 : Nat) : Int) = ((max most (max (s_take law A h).2.2 (s_drain law l.tail.length (s_take law A h).1 (s_take law A h).2.1).2) : Nat) : Int)
        omega
      · have e1 : Ex (b + 1) A.length R m m1 := by rw [em1]; exact ex_upb m
        have e3 : Ex (b + 1) A.length R m2 m3 := by rw [em3]; exact ex_upb m2
        exact (((e1.trans t5 (Nat.le_refl _) (Nat.le_refl _)).trans e3 (Nat.le_refl _) (Nat.le_refl _)).trans g5 w2.len t2)
      · have f1 : Fq b m m1 := by rw [em1]; exact Fq.up8 _ _ _
        have f3 : Fq b m2 m3 := by rw [em3]; exact Fq.up9 _ _ _
        exact ((f1.trans t6.fq).trans f3).trans g6
theorem c_drain {b law : Nat} (hlaw : law = 0 ∨ law = 1) {vs : List hVr} {Rs : Nat → Nat} {m : hMem} (h : HR b law vs Rs m) (ho : Os vs) {j : Nat} (hj : j < vs.length) :
    ∃ m', f_X2_linksToEmpty b (j : Int) m = some (((s_drain law ((b_all 99 vs).getD j []).length (h_all law 99 vs).1 ((h_all law 99 vs).2.1.getD j 0)).1 : Int), m') ∧ m' b 9 = ((s_drain law ((b_all 99 vs).getD j []).length (h_all law 99 vs).1 ((h_all law 99 vs).2.1.getD j 0)).2 : Int) ∧ HR b law vs Rs m' ∧ Fh b m m' := by
  have h30 := ho.1
  obtain ⟨i1, i2, i3, i4, i5⟩ := hi_all hlaw 99 vs ho
  obtain ⟨⟨hb1, hb2⟩, -⟩ := bo_all 99 vs ho
  have hc := h.ce
  have hRb := (h.2.2.2.2.1 vs.length (Nat.le_refl _)).2
  obtain ⟨q1, q2, -, -⟩ := hb2 j hj
  obtain ⟨m1, em1⟩ : ∃ m1 : hMem, m1 = hv_up m b 9 0 := ⟨_, rfl⟩
  have hc1 : Ce (b + 1) (h_all law 99 vs).1 (Rs vs.length) m1 := by rw [em1]; exact hc.eq (fun k k1 k2 => hp_up_kk m _ _ (by omega))
  obtain ⟨m', g1, g2, g3, g4, g5, g6⟩ := c_drainL (b := b) hlaw ((h_all law 99 vs).1.length : Int) (Rs vs.length : Int) hv_FU 0 (sum := 0) (most := 0) hc1 i1 (by rw [em1, hp_up_j _ _ _ (by omega)]; exact h.1) (i5 j hj).1 q1 (by omega) (by omega) (by omega) (by rw [em1, hp_up_same]; rfl) (by omega) (fu_lt (by omega))
  have hE : Ex (b + 1) (h_all law 99 vs).1.length (Rs vs.length) m m' := by
    have e1 : Ex (b + 1) (h_all law 99 vs).1.length (Rs vs.length) m m1 := by rw [em1]; exact ex_upb m
    exact e1.trans g5 (Nat.le_refl _) (Nat.le_refl _)
  have hF : Fq b m m' := by
    have f1 : Fq b m m1 := by rw [em1]; exact Fq.up9 _ _ _
    exact f1.trans g6
  refine ⟨m', ?_, ?_, ?_, fun k hk => hF.1 k (by omega)⟩
  · unfold f_X2_linksToEmpty
    have q0 : f_X1_cells (b + 1) m = some (((h_all law 99 vs).1.length : Int), m) := by unfold f_X1_cells; rw [hc.1]; rfl
    have q1 : f_X1_rows (b + 1) m = some ((Rs vs.length : Int), m) := by unfold f_X1_rows; rw [hc.2.1]; rfl
    rw [q0, hp_b, q1, hp_b, v_heapOf h h30 hj, hp_b, hp_put, ← em1]
    rw [Nat.zero_add] at g1
    exact g1
  · rw [g2]; omega
  · obtain ⟨h1, h2, h3, h4, h5, h6, h7⟩ := h
    refine ⟨by rw [hF.2 0 (by omega) (by omega)]; exact h1, by rw [hF.2 7 (by omega) (by omega)]; exact h2, g3, g4, fun n hn => ⟨(h5 n hn).1.ex (hE.mono (h_px hlaw 99 vs ho n hn).1.len (h6 n vs.length hn (Nat.le_refl _))), (h5 n hn).2⟩, h6, fun i hi => ?_⟩
    rw [hF.1 (b + 11) (by omega), hF.1 (b + 12) (by omega), hF.1 (b + 13) (by omega), hF.1 (b + 14) (by omega)]
    exact h7 i hi
