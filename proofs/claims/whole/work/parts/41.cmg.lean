/-! the class's heaps: merge -/
theorem c_mg210 {law b : Nat} {A : hA} {R t : Nat} {q rl : List Nat} {k : Int} {m : hMem} (f : Nat) (h : Ce (b + 1) A R m) (hk : Rw (b + 1) m R k q) (hw : Wf law A) (ht : Tl A [t]) (hq : Tl A q) (hs : Sx A q) (hr : ∀ x ∈ q, rk A t ≤ rk A x) (hl : (jb A t ++ fm A n_jobs q).length ≤ 24) (hR : R + (s_carry A t q).2.2 + 1 ≤ 2592) (hAl : A.length + (s_carry A t q).2.2 ≤ 864) (has : asR b m (t :: rl)) (h64 : rl.length < 64) :
    ∃ k' m', L_X2_merge_210 b (f + 1) k (rl.length : Int) m = L_X2_merge_210 b f k' ((rl.length : Int) - 1) m' ∧ asR b m' rl ∧ Ce (b + 1) (s_carry A t q).1 (R + (s_carry A t q).2.2 + 1) m' ∧ Rw (b + 1) m' (R + (s_carry A t q).2.2 + 1) k' (s_carry A t q).2.1 ∧ Ex (b + 1) A.length R m m' ∧ Fa b ((s_carry A t q).2.2 : Int) m m' := by
  obtain ⟨k', m', g1, g2, g3, g4, g5⟩ := c_carry h hk hw ht hq hs hr hl hR hAl
  refine ⟨k', m', ?_, asR.eq (g5.1 _ (by omega)) has.2, g2, g3, g4, g5.fa⟩
  show B_X2_merge_210 b (L_X2_merge_210 b f) k (rl.length : Int) m = _
  unfold B_X2_merge_210
  rw [hp_lt_f (by omega) (by decide) (by omega), fe_at' (by omega) (by omega) (by omega), hp_b, Int.toNat_natCast, has.1, g1, hp_b, hp_set]
  rw [show (rl.length : Int) + -1 = (rl.length : Int) - 1 by omega]
theorem fe_cmp {x y : Int} {m : hMem} (hx : hv_R32 x) (hy : hv_R32 y) : f_J6_compare_7cf53 x y m = some (if x < y then -1 else if x = y then 0 else 1, m) := by
  unfold f_J6_compare_7cf53
  by_cases h : x < y
  · rw [hp_lt_t hx hy h, if_pos h]; rfl
  · rw [hp_lt_f hx hy (by omega), if_neg h]
    by_cases e : x = y
    · rw [hp_eq_t hx hy e, if_pos e]; rfl
    · rw [hp_eq_f hx hy (by omega), if_neg e]; rfl
def lv (a c : List Nat) : Nat := if a = [] ∨ c = [] then 0 else a.length + c.length - 1
theorem carry_lt {A : hA} {t : Nat} {q : List Nat} (h : ∀ x ∈ q, rk A t < rk A x) : s_carry A t q = (A, t :: q, 0) := by
  cases q with
  | nil => rfl
  | cons x q => rw [s_carry, if_pos (h x (by simp))]
theorem c_mgL {law b : Nat} : ∀ (n f : Nat) {A : hA} {a c : List Nat} (rl : List Nat) (R : Nat) (ka kc : Int) (m : hMem), a.length + c.length ≤ n → n < f → rl.length + a.length + c.length < 64 → Ce (b + 1) A R m → asR b m rl → Rw (b + 1) m R ka a → Rw (b + 1) m R kc c → Wf law A → Tl A a → Tl A c → Sx A a → Sx A c → (fm A n_jobs a ++ fm A n_jobs c).length ≤ 24 → R + 2 * (a.length + c.length) ≤ 2592 → A.length + (a.length + c.length) ≤ 864 →
    ∃ (f' : Nat) (k' : Int) (m' : hMem) (R' : Nat), 1000000 ≤ f' + (a.length + c.length) ∧ L_X2_merge_46 b f ka kc (rl.length : Int) m = L_X2_merge_210 b f' k' ((rl.length : Int) - 1) m' ∧ asR b m' rl ∧ R ≤ R' ∧ R' ≤ R + (s_mg n A a c).2.2 + lv a c ∧ Ce (b + 1) (s_mg n A a c).1 R' m' ∧ Rw (b + 1) m' R' k' (s_mg n A a c).2.1 ∧ Ex (b + 1) A.length R m m' ∧ Fa b ((s_mg n A a c).2.2 : Int) m m'
  | n, 0, _, _, _, _, _, _, _, _, _, hf, _, _, _, _, _, _, _, _, _, _, _, _, _ => by omega
  | n, f + 1, A, [], c, rl, R, ka, kc, m, hn, hf, hi, h, has, hka, hkc, hw, ha, hc, sa, sc, hl, hR, hAl => by
    have k0 : ka = 0 := hka
    have hkl := hkc.lt h.2.2.2.2.2.1
    have e : s_mg n A [] c = (A, c, 0) := by
      cases n with
      | zero =>
        have : c = [] := by simpa using hn
        subst this; rfl
      | succ n => rfl
    simp only [List.length_nil] at hi
    refine ⟨hv_FU, kc, m, R, ?_, ?_, has, Nat.le_refl _, by omega, by rw [e]; exact h, by rw [e]; exact hkc, Ex.refl _ _ _ _, by rw [e]; exact Fa.refl _ _⟩
    · show 1000000 ≤ 1000000 + _; omega
    · show B_X2_merge_46 b (L_X2_merge_46 b f) ka kc (rl.length : Int) m = _
      unfold B_X2_merge_46 J_X2_merge_192 J_X2_merge_202
      rw [hp_lt_t (by omega) (by decide) (by omega), hp_eq_t (by omega) (by decide) k0, hp_eq_t (by omega) (by decide) k0, hp_set]
  | n, f + 1, A, x :: a, [], rl, R, ka, kc, m, hn, hf, hi, h, has, hka, hkc, hw, ha, hc, sa, sc, hl, hR, hAl => by
    have k0 : kc = 0 := hkc
    have hkl := hka.lt h.2.2.2.2.2.1
    have hk0 : ka ≠ 0 := fun e => by have := hka.nil_iff.mp e; cases this
    have e : s_mg n A (x :: a) [] = (A, x :: a, 0) := by
      cases n with
      | zero => simp at hn
      | succ n => rfl
    simp only [List.length_nil, List.length_cons] at hi
    refine ⟨hv_FU, ka, m, R, ?_, ?_, has, Nat.le_refl _, by omega, by rw [e]; exact h, by rw [e]; exact hka, Ex.refl _ _ _ _, by rw [e]; exact Fa.refl _ _⟩
    · show 1000000 ≤ 1000000 + _; omega
    · show B_X2_merge_46 b (L_X2_merge_46 b f) ka kc (rl.length : Int) m = _
      unfold B_X2_merge_46 J_X2_merge_192 J_X2_merge_202
      rw [hp_lt_t (by omega) (by decide) (by omega), hp_eq_f (by omega) (by decide) (by omega), hp_eq_t (by omega) (by decide) k0, hp_eq_f (by omega) (by decide) (by omega), hp_set]
  | 0, f + 1, A, x :: a, y :: c, rl, R, ka, kc, m, hn, hf, hi, h, has, hka, hkc, hw, ha, hc, sa, sc, hl, hR, hAl => by simp at hn
  | n + 1, f + 1, A, x :: a, y :: c, rl, R, ka, kc, m, hn, hf, hi, h, has, hka, hkc, hw, ha, hc, sa, sc, hl, hR, hAl => by
    obtain ⟨hx, ha'⟩ := tl_cons.mp ha
    obtain ⟨hy, hc'⟩ := tl_cons.mp hc
    have sa' := List.pairwise_cons.mp sa
    have sc' := List.pairwise_cons.mp sc
    have hkla := hka.lt h.2.2.2.2.2.1
    have hklc := hkc.lt h.2.2.2.2.2.1
    have hka0 : ka ≠ 0 := fun e => by have := hka.nil_iff.mp e; cases this
    have hkc0 : kc ≠ 0 := fun e => by have := hkc.nil_iff.mp e; cases this
    have xl := (hx x (by simp)).2.1
    have yl := (hy y (by simp)).2.1
    have bx := wf_tn hw xl
    have by' := wf_tn hw yl
    have fx : f_X1_firstOf (b + 1) ka m = some ((x : Int), m) := ce_first h hka
    have fy : f_X1_firstOf (b + 1) kc m = some ((y : Int), m) := ce_first h hkc
    simp only [List.length_cons] at hn hi hR hAl
    have hl' : ((jb A x ++ fm A n_jobs a) ++ (jb A y ++ fm A n_jobs c)).length ≤ 24 := hl
    simp only [List.length_append] at hl'
    have lx : (fm A n_jobs (x :: a)).length = (jb A x).length + (fm A n_jobs a).length := by
      show (jb A x ++ fm A n_jobs a).length = _
      rw [List.length_append]
    have ly : (fm A n_jobs (y :: c)).length = (jb A y).length + (fm A n_jobs c).length := by
      show (jb A y ++ fm A n_jobs c).length = _
      rw [List.length_append]
    have hlv : lv (x :: a) (y :: c) = a.length + c.length + 1 := by
      unfold lv
      rw [if_neg (by simp)]
      simp only [List.length_cons]; omega
    have start : L_X2_merge_46 b (f + 1) ka kc (rl.length : Int) m = hv_lt (if (rk A x : Int) < (rk A y : Int) then -1 else if (rk A x : Int) = (rk A y : Int) then 0 else 1) 0 (J_X2_merge_118 b (L_X2_merge_46 b f) ka kc (rl.length : Int) (x : Int) (y : Int) (if (rk A x : Int) < (rk A y : Int) then -1 else if (rk A x : Int) = (rk A y : Int) then 0 else 1) (x : Int) m) (J_X2_merge_118 b (L_X2_merge_46 b f) ka kc (rl.length : Int) (x : Int) (y : Int) (if (rk A x : Int) < (rk A y : Int) then -1 else if (rk A x : Int) = (rk A y : Int) then 0 else 1) (y : Int) m) := by
      show B_X2_merge_46 b (L_X2_merge_46 b f) ka kc (rl.length : Int) m = _
      unfold B_X2_merge_46
      rw [hp_lt_t (by omega) (by decide) (by omega), hp_eq_f (by omega) (by decide) (by omega), hp_eq_f (by omega) (by decide) (by omega), fx, hp_b, fy, hp_b, ce_rank h xl, hp_b, ce_rank h yl, hp_b, fe_cmp (by omega) (by omega), hp_b]
    by_cases c1 : rk A x < rk A y
    · rw [if_pos (by omega)] at start
      rw [hp_lt_t (by decide) (by decide) (by decide)] at start
      have h1 : Ce (b + 1) A R (hv_up m (b + 15) rl.length (x : Int)) := h.up
      have hE1 := Ex.up b A.length R rl.length (x : Int) m
      obtain ⟨kr, r1, r2⟩ := ce_rest h1 (Rw.ex hE1 (Nat.le_refl _) hka)
      have r2 : Rw (b + 1) (hv_up m (b + 15) rl.length (x : Int)) R kr a := r2
      have e2 : L_X2_merge_46 b (f + 1) ka kc (rl.length : Int) m = L_X2_merge_46 b f kr kc (((x :: rl).length : Nat) : Int) (hv_up m (b + 15) rl.length (x : Int)) := by
        rw [start]
        unfold J_X2_merge_118 J_X2_merge_144 J_X2_merge_167
        rw [hp_eq_f (by decide) (by decide) (by decide), fe_set (by omega) (by omega) (by omega), hp_b, hp_set, Int.toNat_natCast, hp_lt_f (by decide) (by decide) (by decide), r1, hp_b, hp_lt_t (by decide) (by decide) (by decide)]
        rw [show (((x :: rl).length : Nat) : Int) = (rl.length : Int) + 1 by simp]
      have hls : (fm A n_jobs a ++ fm A n_jobs (y :: c)).length ≤ 24 := by
        show (fm A n_jobs a ++ (jb A y ++ fm A n_jobs c)).length ≤ 24
        simp only [List.length_append]; omega
      have lo1 : ∀ z ∈ y :: c, rk A x + 1 ≤ rk A z := fun z hz => by
        rcases List.mem_cons.mp hz with rfl | hz
        · exact c1
        · have := sc'.1 z hz; omega
      obtain ⟨q1, q2, q3, q4, q5, q6, q7, q8, q9⟩ := mg_ok n (A := A) (a := a) (b := y :: c) (rk A x + 1) (by simp only [List.length_cons]; omega) hw ha' hc sa'.2 sc (fun z hz => sa'.1 z hz) lo1 hls
      obtain ⟨f', k', m', R', g1, g2, g3, g4, g5, g6, g7, g8, g9⟩ := c_mgL n f (A := A) (a := a) (c := y :: c) (x :: rl) R kr kc (hv_up m (b + 15) rl.length (x : Int)) (by simp only [List.length_cons]; omega) (by omega) (by simp only [List.length_cons]; omega) h1 has.push r2 (Rw.ex hE1 (Nat.le_refl _) hkc) hw ha' hc sa'.2 sc hls (by simp only [List.length_cons]; omega) (by simp only [List.length_cons]; omega)
      have hlt : ∀ z ∈ (s_mg n A a (y :: c)).2.1, rk (s_mg n A a (y :: c)).1 x < rk (s_mg n A a (y :: c)).1 z := fun z hz => by rw [rk_px q2 xl]; exact q5 z hz
      have hcar := carry_lt hlt
      have lvb : lv a (y :: c) ≤ a.length + c.length := by
        unfold lv
        split
        · omega
        · simp only [List.length_cons]; omega
      simp only [List.length_cons] at g1 q8
      obtain ⟨f'', rfl⟩ : ∃ f'', f' = f'' + 1 := ⟨f' - 1, by omega⟩
      have hlen := q6.length_eq
      simp only [List.length_append] at hls hlen
      obtain ⟨k2, m2, w1, w2, w3, w4, w5, w6⟩ := c_mg210 (t := x) (rl := rl) f'' g6 g7 q1 (hx.px q2) q3 q4 (fun z hz => Nat.le_of_lt (hlt z hz)) (by rw [List.length_append, jb_px q2 xl]; omega) (by rw [hcar]; show R' + 0 + 1 ≤ 2592; omega) (by rw [hcar]; show (s_mg n A a (y :: c)).1.length + 0 ≤ 864; omega) g3 (by omega)
      rw [hcar] at w3 w4 w6
      have w3 : Ce (b + 1) (s_mg n A a (y :: c)).1 (R' + 0 + 1) m2 := w3
      have w4 : Rw (b + 1) m2 (R' + 0 + 1) k2 (x :: (s_mg n A a (y :: c)).2.1) := w4
      have es : s_mg (n + 1) A (x :: a) (y :: c) = ((s_mg n A a (y :: c)).1, x :: (s_mg n A a (y :: c)).2.1, (s_mg n A a (y :: c)).2.2) := by rw [s_mg, if_pos c1]
      rw [es]
      refine ⟨f'', k2, m2, R' + 0 + 1, by simp only [List.length_cons]; omega, ?_, w2, by omega, ?_, w3, w4, (hE1.trans g8 (Nat.le_refl _) (Nat.le_refl _)).trans w5 (by have := q2.len; omega) g4, ((((Fa.up b rl.length (x : Int) m).trans g9).trans w6).cast ?_)⟩
      · rw [e2, g2, show (((x :: rl).length : Nat) : Int) - 1 = (rl.length : Int) by simp, w1]
      · rw [hlv]
        show R' + 0 + 1 ≤ R + (s_mg n A a (y :: c)).2.2 + (a.length + c.length + 1)
        omega
      · show 0 + ((s_mg n A a (y :: c)).2.2 : Int) + ((0 : Nat) : Int) = ((s_mg n A a (y :: c)).2.2 : Int)
        omega
    · by_cases c2 : rk A y < rk A x
      · rw [if_neg (by omega), if_neg (by omega)] at start
        rw [hp_lt_f (by decide) (by decide) (by decide)] at start
        have h1 : Ce (b + 1) A R (hv_up m (b + 15) rl.length (y : Int)) := h.up
        have hE1 := Ex.up b A.length R rl.length (y : Int) m
        obtain ⟨kr, r1, r2⟩ := ce_rest h1 (Rw.ex hE1 (Nat.le_refl _) hkc)
        have r2 : Rw (b + 1) (hv_up m (b + 15) rl.length (y : Int)) R kr c := r2
        have e2 : L_X2_merge_46 b (f + 1) ka kc (rl.length : Int) m = L_X2_merge_46 b f ka kr (((y :: rl).length : Nat) : Int) (hv_up m (b + 15) rl.length (y : Int)) := by
          rw [start]
          unfold J_X2_merge_118 J_X2_merge_144 J_X2_merge_167
          rw [hp_eq_f (by decide) (by decide) (by decide), fe_set (by omega) (by omega) (by omega), hp_b, hp_set, Int.toNat_natCast, hp_lt_t (by decide) (by decide) (by decide), hp_lt_f (by decide) (by decide) (by decide), r1, hp_b]
          rw [show (((y :: rl).length : Nat) : Int) = (rl.length : Int) + 1 by simp]
        have hls : (fm A n_jobs (x :: a) ++ fm A n_jobs c).length ≤ 24 := by
          show ((jb A x ++ fm A n_jobs a) ++ fm A n_jobs c).length ≤ 24
          simp only [List.length_append]; omega
        have lo1 : ∀ z ∈ x :: a, rk A y + 1 ≤ rk A z := fun z hz => by
          rcases List.mem_cons.mp hz with rfl | hz
          · exact c2
          · have := sa'.1 z hz; omega
        obtain ⟨q1, q2, q3, q4, q5, q6, q7, q8, q9⟩ := mg_ok n (A := A) (a := x :: a) (b := c) (rk A y + 1) (by simp only [List.length_cons]; omega) hw ha hc' sa sc'.2 lo1 (fun z hz => sc'.1 z hz) hls
        obtain ⟨f', k', m', R', g1, g2, g3, g4, g5, g6, g7, g8, g9⟩ := c_mgL n f (A := A) (a := x :: a) (c := c) (y :: rl) R ka kr (hv_up m (b + 15) rl.length (y : Int)) (by simp only [List.length_cons]; omega) (by omega) (by simp only [List.length_cons]; omega) h1 has.push (Rw.ex hE1 (Nat.le_refl _) hka) r2 hw ha hc' sa sc'.2 hls (by simp only [List.length_cons]; omega) (by simp only [List.length_cons]; omega)
        have hlt : ∀ z ∈ (s_mg n A (x :: a) c).2.1, rk (s_mg n A (x :: a) c).1 y < rk (s_mg n A (x :: a) c).1 z := fun z hz => by rw [rk_px q2 yl]; exact q5 z hz
        have hcar := carry_lt hlt
        have lvb : lv (x :: a) c ≤ a.length + c.length := by
          unfold lv
          split
          · omega
          · simp only [List.length_cons]; omega
        simp only [List.length_cons] at g1 q8
        obtain ⟨f'', rfl⟩ : ∃ f'', f' = f'' + 1 := ⟨f' - 1, by omega⟩
        have hlen := q6.length_eq
        simp only [List.length_append] at hls hlen
        obtain ⟨k2, m2, w1, w2, w3, w4, w5, w6⟩ := c_mg210 (t := y) (rl := rl) f'' g6 g7 q1 (hy.px q2) q3 q4 (fun z hz => Nat.le_of_lt (hlt z hz)) (by rw [List.length_append, jb_px q2 yl]; omega) (by rw [hcar]; show R' + 0 + 1 ≤ 2592; omega) (by rw [hcar]; show (s_mg n A (x :: a) c).1.length + 0 ≤ 864; omega) g3 (by omega)
        rw [hcar] at w3 w4 w6
        have w3 : Ce (b + 1) (s_mg n A (x :: a) c).1 (R' + 0 + 1) m2 := w3
        have w4 : Rw (b + 1) m2 (R' + 0 + 1) k2 (y :: (s_mg n A (x :: a) c).2.1) := w4
        have es : s_mg (n + 1) A (x :: a) (y :: c) = ((s_mg n A (x :: a) c).1, y :: (s_mg n A (x :: a) c).2.1, (s_mg n A (x :: a) c).2.2) := by rw [s_mg, if_neg c1, if_pos c2]
        rw [es]
        refine ⟨f'', k2, m2, R' + 0 + 1, by simp only [List.length_cons]; omega, ?_, w2, by omega, ?_, w3, w4, (hE1.trans g8 (Nat.le_refl _) (Nat.le_refl _)).trans w5 (by have := q2.len; omega) g4, ((((Fa.up b rl.length (y : Int) m).trans g9).trans w6).cast ?_)⟩
        · rw [e2, g2, show (((y :: rl).length : Nat) : Int) - 1 = (rl.length : Int) by simp, w1]
        · rw [hlv]
          show R' + 0 + 1 ≤ R + (s_mg n A (x :: a) c).2.2 + (a.length + c.length + 1)
          omega
        · show 0 + ((s_mg n A (x :: a) c).2.2 : Int) + ((0 : Nat) : Int) = ((s_mg n A (x :: a) c).2.2 : Int)
          omega
      · have hr : rk A x = rk A y := by omega
        rw [if_neg (by omega), if_pos (by omega)] at start
        rw [hp_lt_f (by decide) (by decide) (by decide)] at start
        obtain ⟨k1, k2, k3, k4, k5, k6⟩ := link_ok hw hx hy hr (by omega)
        obtain ⟨m0, l1, l2, l3, l4⟩ := c_link (b := b) h hw (by omega) (by omega) hx hy
        have h1 : Ce (b + 1) (s_link A x y) (R + 1) (hv_up m0 (b + 15) rl.length (A.length : Int)) := l2.up
        have hE1 := l3.trans (Ex.up b A.length R rl.length (A.length : Int) m0) (Nat.le_refl _) (Nat.le_refl _)
        have as1 : asR b (hv_up m0 (b + 15) rl.length (A.length : Int)) (A.length :: rl) := (asR.eq (l4.1 _ (by omega)) has).push
        obtain ⟨kra, ra1, ra2⟩ := ce_rest h1 (Rw.ex hE1 (show R ≤ R + 1 by omega) hka)
        have ra2 : Rw (b + 1) (hv_up m0 (b + 15) rl.length (A.length : Int)) (R + 1) kra a := ra2
        obtain ⟨krc, rc1, rc2⟩ := ce_rest h1 (Rw.ex hE1 (show R ≤ R + 1 by omega) hkc)
        have rc2 : Rw (b + 1) (hv_up m0 (b + 15) rl.length (A.length : Int)) (R + 1) krc c := rc2
        have e2 : L_X2_merge_46 b (f + 1) ka kc (rl.length : Int) m = L_X2_merge_46 b f kra krc (((A.length :: rl).length : Nat) : Int) (hv_up m0 (b + 15) rl.length (A.length : Int)) := by
          rw [start]
          unfold J_X2_merge_118 J_X2_merge_144 J_X2_merge_167
          rw [hp_eq_t (by decide) (by decide) (by decide), l1, hp_b, fe_set (by omega) (by omega) (by omega), hp_b, hp_set, Int.toNat_natCast, hp_lt_f (by decide) (by decide) (by decide), ra1, hp_b, hp_lt_f (by decide) (by decide) (by decide), rc1, hp_b]
          rw [show (((A.length :: rl).length : Nat) : Int) = (rl.length : Int) + 1 by simp]
        have f1 := fm_px k2 n_jobs ha'.al
        have f2 := fm_px k2 n_jobs hc'.al
        have hlen := k5.length_eq
        rw [List.length_append] at hlen
        have hls : (fm (s_link A x y) n_jobs a ++ fm (s_link A x y) n_jobs c).length ≤ 24 := by rw [f1, f2, List.length_append]; omega
        obtain ⟨q1, q2, q3, q4, q5, q6, q7, q8, q9⟩ := mg_ok n (A := s_link A x y) (a := a) (b := c) (rk A x + 1) (by omega) k1 (ha'.px k2) (hc'.px k2) ((sx_px k2 ha'.al).mpr sa'.2) ((sx_px k2 hc'.al).mpr sc'.2) (fun z hz => by rw [rk_px k2 (ha' z hz).2.1]; exact sa'.1 z hz) (fun z hz => by rw [rk_px k2 (hc' z hz).2.1, hr]; exact sc'.1 z hz) hls
        obtain ⟨f', k', m', R', g1, g2, g3, g4, g5, g6, g7, g8, g9⟩ := c_mgL n f (A := s_link A x y) (a := a) (c := c) (A.length :: rl) (R + 1) kra krc (hv_up m0 (b + 15) rl.length (A.length : Int)) (by omega) (by omega) (by simp only [List.length_cons]; omega) h1 as1 ra2 rc2 k1 (ha'.px k2) (hc'.px k2) ((sx_px k2 ha'.al).mpr sa'.2) ((sx_px k2 hc'.al).mpr sc'.2) hls (by omega) (by omega)
        have zl := (k3 A.length (by simp)).2.1
        have hlen2 := q6.length_eq
        rw [f1, f2, List.length_append] at hlen2
        have hcl : (jb (s_mg n (s_link A x y) a c).1 A.length ++ fm (s_mg n (s_link A x y) a c).1 n_jobs (s_mg n (s_link A x y) a c).2.1).length ≤ 24 := by rw [List.length_append, jb_px q2 zl]; omega
        have hrr : ∀ z ∈ (s_mg n (s_link A x y) a c).2.1, rk (s_mg n (s_link A x y) a c).1 A.length ≤ rk (s_mg n (s_link A x y) a c).1 z := fun z hz => by rw [rk_px q2 zl, k4]; exact q5 z hz
        have cq := carry_ok (s_mg n (s_link A x y) a c).2.1 (t := A.length) q1 (k3.px q2) q3 q4 hrr hcl
        obtain ⟨-, -, -, -, -, -, c7, c8, c9⟩ := cq
        have lvb : lv a c ≤ a.length + c.length := by
          unfold lv
          split <;> omega
        obtain ⟨f'', rfl⟩ : ∃ f'', f' = f'' + 1 := ⟨f' - 1, by omega⟩
        obtain ⟨kk2, m2, w1, w2, w3, w4, w5, w6⟩ := c_mg210 (t := A.length) (rl := rl) f'' g6 g7 q1 (k3.px q2) q3 q4 hrr hcl (by omega) (by omega) g3 (by omega)
        have es : s_mg (n + 1) A (x :: a) (y :: c) = ((s_carry (s_mg n (s_link A x y) a c).1 A.length (s_mg n (s_link A x y) a c).2.1).1, (s_carry (s_mg n (s_link A x y) a c).1 A.length (s_mg n (s_link A x y) a c).2.1).2.1, 1 + (s_mg n (s_link A x y) a c).2.2 + (s_carry (s_mg n (s_link A x y) a c).1 A.length (s_mg n (s_link A x y) a c).2.1).2.2) := by rw [s_mg, if_neg c1, if_neg c2]
        rw [es]
        refine ⟨f'', kk2, m2, _, by simp only [List.length_cons]; omega, ?_, w2, ?_, ?_, w3, w4, (hE1.trans (g8.mono (by omega) (by omega)) (Nat.le_refl _) (Nat.le_refl _)).trans w5 (by have := q2.len; omega) (by omega), (((((l4.fa).trans (Fa.up b rl.length (A.length : Int) m0)).trans g9).trans w6).cast ?_)⟩
        · rw [e2, g2, show (((A.length :: rl).length : Nat) : Int) - 1 = (rl.length : Int) by simp, w1]
        · omega
        · rw [hlv]
          show R' + (s_carry (s_mg n (s_link A x y) a c).1 A.length (s_mg n (s_link A x y) a c).2.1).2.2 + 1 ≤ R + (1 + (s_mg n (s_link A x y) a c).2.2 + (s_carry (s_mg n (s_link A x y) a c).1 A.length (s_mg n (s_link A x y) a c).2.1).2.2) + (a.length + c.length + 1)
          omega
        · show 1 + 0 + ((s_mg n (s_link A x y) a c).2.2 : Int) + ((s_carry (s_mg n (s_link A x y) a c).1 A.length (s_mg n (s_link A x y) a c).2.1).2.2 : Int) = ((1 + (s_mg n (s_link A x y) a c).2.2 + (s_carry (s_mg n (s_link A x y) a c).1 A.length (s_mg n (s_link A x y) a c).2.1).2.2 : Nat) : Int)
          omega
theorem ne_len {B : hA} {q : List Nat} {k : Nat} (e : (fm B n_jobs q).length = k) (hk : 1 ≤ k) : 1 ≤ q.length := by
  cases q with
  | nil => simp only [fm, List.length_nil] at e; omega
  | cons x q => simp
theorem ne_pos {q : List Nat} (h : q ≠ []) : 1 ≤ q.length := by
  cases q with
  | nil => exact absurd rfl h
  | cons x q => simp
theorem c_merge {law b : Nat} {A : hA} {R : Nat} {a c : List Nat} {ka kc : Int} {m : hMem} (h : Ce (b + 1) A R m) (hka : Rw (b + 1) m R ka a) (hkc : Rw (b + 1) m R kc c) (hw : Wf law A) (ha : Tl A a) (hc : Tl A c) (sa : Sx A a.tail) (wa : ∀ x y l, a = x :: y :: l → rk A x ≤ rk A y) (sc : Sx A c.tail) (wc : ∀ x y l, c = x :: y :: l → rk A x ≤ rk A y) (hl : (fm A n_jobs a ++ fm A n_jobs c).length ≤ 24) (h60 : a.length + c.length < 60) (hR : R + 2 * (a.length + c.length) + 2 ≤ 2592) (hAl : A.length + (a.length + c.length) ≤ 864) :
    ∃ k' m' R', f_X2_merge b ka kc m = some (k', m') ∧ R ≤ R' ∧ R' ≤ R + 2 * (a.length + c.length) ∧ Ce (b + 1) (s_merge A a c).1 R' m' ∧ Rw (b + 1) m' R' k' (s_merge A a c).2.1 ∧ Ex (b + 1) A.length R m m' ∧ Fa b ((s_merge A a c).2.2 : Int) m m' := by
  rw [List.length_append] at hl
  obtain ⟨g1, g2, g3, g4, g5, g6, g7, g8, g9⟩ := cf_ok hw ha sa wa (by omega)
  have f2 := fm_px g2 n_jobs hc.al
  have sc2 := (sx_px g2 (fun x hx => hc.al x (List.mem_of_mem_tail hx))).mpr sc
  have wc2 : ∀ x y l, c = x :: y :: l → rk (s_cf A a).1 x ≤ rk (s_cf A a).1 y := fun x y l e => by rw [rk_px g2 (hc x (by rw [e]; simp)).2.1, rk_px g2 (hc y (by rw [e]; simp)).2.1]; exact wc x y l e
  obtain ⟨k1, k2, k3, k4, k5, k6, k7, k8, k9⟩ := cf_ok g1 (hc.px g2) sc2 wc2 (by rw [f2]; omega)
  rw [f2] at k6
  have f3 := fm_px k2 n_jobs g3.al
  have l1 := g6.length_eq
  have l2 := k6.length_eq
  obtain ⟨q1, q2, q3, q4, q5, q6, q7, q8, q9⟩ := mg_ok ((s_cf A a).2.1.length + (s_cf (s_cf A a).1 c).2.1.length) (A := (s_cf (s_cf A a).1 c).1) (a := (s_cf A a).2.1) (b := (s_cf (s_cf A a).1 c).2.1) 0 (Nat.le_refl _) k1 (g3.px k2) k3 ((sx_px k2 g3.al).mpr g4) k4 (fun _ _ => Nat.zero_le _) (fun _ _ => Nat.zero_le _) (by rw [f3, List.length_append]; omega)
  obtain ⟨ka', m1, R1, a1, a2, a3, a4, a5, a6, a7⟩ := c_cf (b := b) h hka hw ha sa wa (by omega) (by omega) (by omega)
  have a0 : a ≠ [] → 1 ≤ (s_cf A a).2.1.length := fun e => ne_len l1 (Nat.le_trans (ne_pos e) (fm_len hw ha.al))
  have R1le : R1 ≤ R + a.length := by
    by_cases e : a = []
    · rw [if_pos e, if_pos e] at a3
      omega
    · rw [if_neg e, if_neg e] at a3
      have := a0 e
      omega
  obtain ⟨kc', m2, R2, b1, b2, b3, b4, b5, b6, b7⟩ := c_cf (b := b) a4 (Rw.ex a6 a2 hkc) g1 (hc.px g2) sc2 wc2 (by rw [f2]; omega) (by omega) (by omega)
  have c1 : c ≠ [] → 1 ≤ (s_cf (s_cf A a).1 c).2.1.length := fun e => ne_len l2 (Nat.le_trans (ne_pos e) (fm_len hw hc.al))
  have hE12 := a6.trans b6 (by omega) a2
  have R2le : R2 + (s_mg ((s_cf A a).2.1.length + (s_cf (s_cf A a).1 c).2.1.length) (s_cf (s_cf A a).1 c).1 (s_cf A a).2.1 (s_cf (s_cf A a).1 c).2.1).2.2 + lv (s_cf A a).2.1 (s_cf (s_cf A a).1 c).2.1 ≤ R + 2 * (a.length + c.length) := by
    by_cases ea : a = []
    · rw [if_pos ea, if_pos ea] at a3
      have e1 : (s_cf A a).2.1 = [] := by rw [ea]; rfl
      have elv : lv (s_cf A a).2.1 (s_cf (s_cf A a).1 c).2.1 = 0 := by rw [lv, if_pos (Or.inl e1)]
      have em : (s_mg ((s_cf A a).2.1.length + (s_cf (s_cf A a).1 c).2.1.length) (s_cf (s_cf A a).1 c).1 (s_cf A a).2.1 (s_cf (s_cf A a).1 c).2.1).2.2 = 0 := by
        rw [e1]
        cases h0 : ([] : List Nat).length + (s_cf (s_cf A a).1 c).2.1.length with
        | zero => rfl
        | succ n => rfl
      rw [elv, em]
      by_cases ec : c = []
      · rw [if_pos ec, if_pos ec] at b3; omega
      · rw [if_neg ec, if_neg ec] at b3
        have := c1 ec
        omega
    · rw [if_neg ea, if_neg ea] at a3
      have ga := a0 ea
      by_cases ec : c = []
      · rw [if_pos ec, if_pos ec] at b3
        have e1 : (s_cf (s_cf A a).1 c).2.1 = [] := by rw [ec]; rfl
        have elv : lv (s_cf A a).2.1 (s_cf (s_cf A a).1 c).2.1 = 0 := by rw [lv, if_pos (Or.inr e1)]
        have em : (s_mg ((s_cf A a).2.1.length + (s_cf (s_cf A a).1 c).2.1.length) (s_cf (s_cf A a).1 c).1 (s_cf A a).2.1 (s_cf (s_cf A a).1 c).2.1).2.2 = 0 := by
          rw [e1]
          cases h0 : (s_cf A a).2.1 with
          | nil => rfl
          | cons x l => rfl
        rw [elv, em]
        omega
      · rw [if_neg ec, if_neg ec] at b3
        have gc := c1 ec
        have elv : lv (s_cf A a).2.1 (s_cf (s_cf A a).1 c).2.1 ≤ (s_cf A a).2.1.length + (s_cf (s_cf A a).1 c).2.1.length - 1 := by
          unfold lv
          split <;> omega
        have l3 := q6.length_eq
        rw [f3, List.length_append] at l3
        have e3 := ne_len l3 (by have := fm_len hw hc.al; have := ne_pos ec; omega)
        omega
  obtain ⟨f', k', m', R', d1, d2, d3, d4, d5, d6, d7, d8, d9⟩ := c_mgL (law := law) (b := b) ((s_cf A a).2.1.length + (s_cf (s_cf A a).1 c).2.1.length) hv_FU (A := (s_cf (s_cf A a).1 c).1) (a := (s_cf A a).2.1) (c := (s_cf (s_cf A a).1 c).2.1) [] R2 ka' kc' m2 (Nat.le_refl _) (fu_lt (by omega)) (by simp only [List.length_nil]; omega) b4 trivial (Rw.ex b6 b2 a5) b5 k1 (g3.px k2) k3 ((sx_px k2 g3.al).mpr g4) k4 (by rw [f3, List.length_append]; omega) (by
    by_cases ea : a = []
    · have e1 : (s_cf A a).2.1 = [] := by rw [ea]; rfl
      rw [if_pos ea, if_pos ea] at a3
      rw [e1]
      simp only [List.length_nil]
      by_cases ec : c = []
      · rw [if_pos ec, if_pos ec] at b3
        have e2 : (s_cf (s_cf A a).1 c).2.1 = [] := by rw [ec]; rfl
        rw [e2]
        simp only [List.length_nil]
        omega
      · rw [if_neg ec, if_neg ec] at b3
        omega
    · rw [if_neg ea, if_neg ea] at a3
      by_cases ec : c = []
      · rw [if_pos ec, if_pos ec] at b3
        have e2 : (s_cf (s_cf A a).1 c).2.1 = [] := by rw [ec]; rfl
        rw [e2]
        simp only [List.length_nil]
        omega
      · rw [if_neg ec, if_neg ec] at b3
        omega) (by omega)
  obtain ⟨f'', rfl⟩ : ∃ f'', f' = f'' + 1 := ⟨f' - 1, by omega⟩
  refine ⟨k', m', R', ?_, by omega, by omega, d6, d7, hE12.trans d8 (by omega) (by omega), ((a7.fa.trans b7.fa).trans d9).cast ?_⟩
  · have fin : L_X2_merge_210 b (f'' + 1) k' ((([] : List Nat).length : Int) - 1) m' = some (k', m') := by
      show B_X2_merge_210 b (L_X2_merge_210 b f'') k' (((0 : Nat) : Int) - 1) m' = _
      unfold B_X2_merge_210
      rw [hp_lt_t (by decide) (by decide) (by decide)]
      rfl
    rw [fin] at d2
    rw [← d2]
    obtain ⟨kr, r1, r2⟩ := ce_rest h hka
    obtain ⟨kr2, s1, s2⟩ := ce_rest a4 (Rw.ex a6 a2 hkc)
    rw [ce_first h hka, hp_b, r1, hp_b] at a1
    rw [ce_first a4 (Rw.ex a6 a2 hkc), hp_b, s1, hp_b] at b1
    unfold f_X2_merge
    rw [ce_first h hka, hp_b, r1, hp_b, a1, hp_b, ce_first a4 (Rw.ex a6 a2 hkc), hp_b, s1, hp_b, b1, hp_b]
    rfl
  · show ((s_cf A a).2.2 : Int) + ((s_cf (s_cf A a).1 c).2.2 : Int) + ((s_mg _ _ _ _).2.2 : Int) = (((s_cf A a).2.2 + (s_cf (s_cf A a).1 c).2.2 + (s_mg _ _ _ _).2.2 : Nat) : Int)
    omega
