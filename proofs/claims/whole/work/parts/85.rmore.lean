/-! jobs that one has more; taking all; fewest hands -/
def sj (f : Nat → Nat) : Nat → Nat
  | 0 => 0
  | n + 1 => sj f n + f n
theorem sj_congr {f g : Nat → Nat} : ∀ (n : Nat), (∀ j, j < n → f j = g j) → sj f n = sj g n
  | 0, _ => rfl
  | n + 1, h => by
    show sj f n + f n = sj g n + g n
    rw [sj_congr n (fun j hj => h j (by omega)), h n (by omega)]
theorem sj_inc {f g : Nat → Nat} {k : Nat} : ∀ (n : Nat), k < n → f k = g k + 1 → (∀ j, j < n → j ≠ k → f j = g j) → sj f n = sj g n + 1
  | 0, h, _, _ => by omega
  | n + 1, h, hk, ho => by
    show sj f n + f n = sj g n + g n + 1
    by_cases c : k = n
    · rw [← c, sj_congr k (fun j hj => ho j (by omega) (by omega)), hk]
      omega
    · rw [sj_inc n (by omega) hk (fun j hj hne => ho j (by omega) hne), ho n (by omega) (fun e => c e.symm)]
      omega
theorem cnt_zero {l : List Nat} {j : Nat} (h : ∀ t ∈ l, t % 30 ≠ j) : cnt l j = 0 := by
  rcases Nat.eq_zero_or_pos (cnt l j) with c | c
  · exact c
  · obtain ⟨t, h1, h2⟩ := cnt_pos.mp c
    exact absurd h2 (h t h1)
theorem exc_sum {vs : List hVr} : ∀ (a c : List Nat), So a → So c → (∀ t ∈ a, Jt vs t) → (∀ t ∈ c, Jt vs t) → exc a c = sj (fun j => cnt a j - cnt c j) 30
  | [], c, _, _, _, _ => by
    show 0 = _
    have : sj (fun j => cnt [] j - cnt c j) 30 = sj (fun _ => 0) 30 := sj_congr 30 (fun j _ => by show 0 - cnt c j = 0; omega)
    rw [this]
    rfl
  | x :: a, c, ha, hc, ja, jc => by
    have ha' := List.pairwise_cons.mp ha
    obtain ⟨p, q, hp, hq⟩ : ∃ p q, p = c.takeWhile (fun y => decide (y < x)) ∧ q = c.dropWhile (fun y => decide (y < x)) := ⟨_, _, rfl, rfl⟩
    have epq : p ++ q = c := by rw [hp, hq]; exact List.takeWhile_append_dropWhile
    have hpl : ∀ y ∈ p, y < x := fun y hy => take_lt y (by rw [← hp]; exact hy)
    have hql : ∀ y ∈ q, x ≤ y := fun y hy => drop_ge hc y (by rw [← hq]; exact hy)
    have hqs : So q := by rw [← epq] at hc; exact (List.pairwise_append.mp hc).2.1
    have jq : ∀ t ∈ q, Jt vs t := fun t ht => jc t (by rw [← epq]; simp [ht])
    have jp : ∀ t ∈ p, Jt vs t := fun t ht => jc t (by rw [← epq]; simp [ht])
    have x30 : x % 30 < 30 := Nat.mod_lt _ (by decide)
    have same : sj (fun j => cnt (x :: a) j - cnt c j) 30 = sj (fun j => cnt (x :: a) j - cnt q j) 30 := sj_congr 30 (fun j hj => by
      show cnt (x :: a) j - cnt c j = cnt (x :: a) j - cnt q j
      rw [← epq, cnt_app]
      rcases Nat.eq_zero_or_pos (cnt p j) with z | z
      · omega
      · obtain ⟨y, hy, hyj⟩ := cnt_pos.mp z
        have : cnt (x :: a) j = 0 := cnt_zero (fun t ht e => by
          have et : t = y := jt_inj (ja t ht) (jp y hy) (by omega)
          have := hpl y hy
          rcases List.mem_cons.mp ht with h | h
          · omega
          · have := ha'.1 t h; omega)
        omega)
    rw [same]
    show (if (c.dropWhile (fun y => decide (y < x))).head? = some x then exc a (c.dropWhile (fun y => decide (y < x))).tail else 1 + exc a (c.dropWhile (fun y => decide (y < x)))) = _
    rw [← hq]
    by_cases ch : q.head? = some x
    · rw [if_pos ch]
      cases q with
      | nil => simp at ch
      | cons y q =>
        have ey : y = x := by simpa using ch
        subst ey
        rw [List.tail_cons, exc_sum a q ha'.2 (List.pairwise_cons.mp hqs).2 (fun t ht => ja t (by simp [ht])) (fun t ht => jq t (by simp [ht]))]
        refine sj_congr 30 (fun j hj => ?_)
        show cnt a j - cnt q j = cnt (y :: a) j - cnt (y :: q) j
        rw [cnt_cons, cnt_cons]
        omega
    · rw [if_neg ch, exc_sum a q ha'.2 hqs (fun t ht => ja t (by simp [ht])) jq]
      have z : cnt q (x % 30) = 0 := cnt_zero (fun t ht e => by
        have et : t = x := jt_inj (jq t ht) (ja x (by simp)) e
        cases q with
        | nil => cases ht
        | cons y q =>
          have h1 := hql y (by simp)
          have hyx : y ≠ x := fun e => ch (by rw [e]; rfl)
          rcases List.mem_cons.mp ht with h | h
          · omega
          · have := (List.pairwise_cons.mp hqs).1 t h
            omega)
      have g := sj_inc (f := fun j => cnt (x :: a) j - cnt q j) (g := fun j => cnt a j - cnt q j) 30 x30 (by
        show cnt (x :: a) (x % 30) - cnt q (x % 30) = cnt a (x % 30) - cnt q (x % 30) + 1
        rw [cnt_cons, if_pos rfl]
        omega) (fun j hj hne => by
        show cnt (x :: a) j - cnt q j = cnt a j - cnt q j
        rw [cnt_cons, if_neg (fun e => hne e.symm)]
        rfl)
      rw [g]
      omega
theorem hp_nld {f : Nat → Int} {n : Nat} {i : Int} {k : Int → hRs} (h0 : 0 ≤ i) (h1 : i < (n : Int)) : hv_nld f n i k = k (f i.toNat) := by rw [hv_nld, if_pos ⟨h0, h1⟩]
theorem hp_nst {f : Nat → Int} {n : Nat} {i v : Int} {k : (Nat → Int) → hRs} (h0 : 0 ≤ i) (h1 : i < (n : Int)) : hv_nst f n i v k = k (fun j => if j = i.toNat then v else f j) := by rw [hv_nst, if_pos ⟨h0, h1⟩]
theorem exc_le : ∀ (a c : List Nat), exc a c ≤ a.length
  | [], _ => Nat.le_refl _
  | x :: a, c => by
    show (if (c.dropWhile (fun y => decide (y < x))).head? = some x then exc a (c.dropWhile (fun y => decide (y < x))).tail else 1 + exc a (c.dropWhile (fun y => decide (y < x)))) ≤ a.length + 1
    split
    · have := exc_le a (c.dropWhile (fun y => decide (y < x))).tail; omega
    · have := exc_le a (c.dropWhile (fun y => decide (y < x))); omega
section
variable {S : hS} {m : hMem}
theorem r_more63 {a c : List Nat} {fE : Nat → Int} {m : hMem} (ha : a.length ≤ 24) (hc : c.length ≤ 24) (hE : ∀ j, j < 30 → fE j = (cnt a j : Int)) (ho : ∀ j, j < 30 → m 79 j = (cnt c j : Int)) : ∀ (d n i : Nat), i + d = 30 → d < n → L_X11_moreOf_63 n ((sj (fun j => cnt a j - cnt c j) i : Nat) : Int) (i : Int) fE m = some (((sj (fun j => cnt a j - cnt c j) 30 : Nat) : Int), m)
  | _, 0, _, _, hn => by omega
  | 0, n + 1, i, hi, hn => by
    have e : i = 30 := by omega
    subst e
    show B_X11_moreOf_63 (L_X11_moreOf_63 n) ((sj (fun j => cnt a j - cnt c j) 30 : Nat) : Int) ((30 : Nat) : Int) fE m = _
    unfold B_X11_moreOf_63
    rw [hp_lt_f (by decide) (by decide) (by decide)]
    rfl
  | d + 1, n + 1, i, hi, hn => by
    have l1 : cnt a i ≤ a.length := List.countP_le_length
    have l2 : cnt c i ≤ c.length := List.countP_le_length
    have g := r_more63 ha hc hE ho d n (i + 1) (by omega) (by omega)
    have g : L_X11_moreOf_63 n ((sj (fun j => cnt a j - cnt c j) i + (cnt a i - cnt c i) : Nat) : Int) ((i + 1 : Nat) : Int) fE m = _ := g
    show B_X11_moreOf_63 (L_X11_moreOf_63 n) ((sj (fun j => cnt a j - cnt c j) i : Nat) : Int) (i : Int) fE m = _
    unfold B_X11_moreOf_63
    rw [hp_lt_t (by omega) (by decide) (by omega), hp_nld (by omega) (by omega), Int.toNat_natCast, hE i (by omega), hp_ald (by omega) (by omega), Int.toNat_natCast, ho i (by omega), fe_max (by decide) (by omega), hp_b, hp_set, hp_set, show max (0 : Int) ((cnt a i : Int) - (cnt c i : Int)) = ((cnt a i - cnt c i : Nat) : Int) by omega, show ((sj (fun j => cnt a j - cnt c j) i : Nat) : Int) + ((cnt a i - cnt c i : Nat) : Int) = ((sj (fun j => cnt a j - cnt c j) i + (cnt a i - cnt c i) : Nat) : Int) by omega]
    exact g
theorem r_more21 {x2 : Int} {m : hMem} : ∀ (d n i : Nat) (fE : Nat → Int), i + d = 30 → d < n → ∃ fE', L_X11_moreOf_21 n x2 (i : Int) fE m = hv_ald m 77 30 x2 (fun v1 => hv_b (f_X11_counts v1 m) (fun r2 m3 => L_X11_moreOf_63 hv_FU 0 0 fE' m3)) ∧ (∀ j, i ≤ j → j < 30 → fE' j = m 79 j) ∧ ∀ j, j < i → fE' j = fE j
  | _, 0, _, _, _, hn => by omega
  | 0, n + 1, i, fE, hi, hn => by
    refine ⟨fE, ?_, fun j a b => by omega, fun _ _ => rfl⟩
    show B_X11_moreOf_21 (L_X11_moreOf_21 n) x2 (i : Int) fE m = _
    unfold B_X11_moreOf_21
    rw [hp_lt_f (by omega) (by decide) (by omega)]
  | d + 1, n + 1, i, fE, hi, hn => by
    obtain ⟨fE', a1, a2, a3⟩ := r_more21 (x2 := x2) (m := m) d n (i + 1) (fun j => if j = i then m 79 i else fE j) (by omega) (by omega)
    refine ⟨fE', ?_, fun j x y => ?_, fun j x => by rw [a3 j (by omega), if_neg (by omega)]⟩
    · show B_X11_moreOf_21 (L_X11_moreOf_21 n) x2 (i : Int) fE m = _
      unfold B_X11_moreOf_21
      rw [hp_lt_t (by omega) (by decide) (by omega), hp_ald (by omega) (by omega), hp_nst (by omega) (by omega), Int.toNat_natCast, hp_set]
      exact a1
    · by_cases c : j = i
      · rw [c, a3 i (by omega), if_pos rfl]
      · exact a2 j (by omega) y
theorem r_moreOf (hA : AV S) (h : RI S m) {i j : Nat} (hi : i < (s_vs S).length) (hj : j < (s_vs S).length) : ∃ m', f_X11_moreOf (i : Int) (j : Int) m = some ((exc (bag (s_vs S) i) (bag (s_vs S) j) : Int), m') ∧ FA m m' := by
  have h30 := hA.1.1
  obtain ⟨b1, b2, b3⟩ := bag_ok hA hi
  obtain ⟨c1, c2, c3⟩ := bag_ok hA hj
  obtain ⟨m1, G, a1, a2, a3⟩ := r_heapOf hA h hi
  obtain ⟨t1, t2, t3⟩ := a2.tb hA.1 hA.law hi
  obtain ⟨u1, u2, -⟩ := a2.tb hA.1 hA.law hj
  obtain ⟨m2, d1, d2, d3⟩ := r_countsAll t3 a2.1 t1 t2
  have R2 : Rel (h_all (s_la S) 99 (s_vs S)).1 (s_vs S) G m2 := a2.1.eq' (fun k hk => d2 k (by omega)) (fun j _ => by rw [d2 65 (by omega)])
  obtain ⟨fE, e1, e2, -⟩ := r_more21 (x2 := (j : Int)) (m := m2) 30 hv_FU 0 (fun _ => 0) (by omega) (fu_lt (by omega))
  obtain ⟨m3, f1, f2, f3⟩ := r_countsAll t3 R2 u1 u2
  have g := r_more63 (fE := fE) (m := m3) b2 c2 (fun k hk => by rw [e2 k (by omega) hk]; exact d3 k hk) f3 30 hv_FU 0 (by omega) (fu_lt (by omega))
  refine ⟨m3, ?_, a3.trans (FA.of (fun k hk => by rw [f2 k (by omega), d2 k (by omega)]))⟩
  unfold f_X11_moreOf
  rw [a1, hp_b, d1, hp_b]
  refine Eq.trans e1 ?_
  rw [hp_ald (by omega) (by omega), Int.toNat_natCast, d2 77 (by omega), f1, hp_b, exc_sum _ _ b1 c1 b3 c3]
  exact g
/-- taking all -/
theorem r_drainL (law : Nat) (hlaw : law = 0 ∨ law = 1) {vs : List hVr} (x2 : Int) (hx2 : x2 = 0 ∨ x2 = 1) : ∀ (n i : Nat) {A : hA} {G : hG} {m : hMem} {h sum most : Nat} {r : Int} {l : List Nat}, Rel A vs G m → m 66 0 = (law : Int) → Nd A G → Wf law A → Tb A h l → So l → Hp G r h → i + l.length ≤ 24 → l.length < n → A.length ≤ 481 + 16 * i → g_L G ≤ 7200 + 200 * i → most ≤ 1000 →
    ∃ m', L_X11_drained_12 n x2 r (sum : Int) (most : Int) m = some ((if x2 = 0 then ((sum + (s_drain law l.length A h).1 : Nat) : Int) else ((max most (s_drain law l.length A h).2 : Nat) : Int)), m') ∧ FA m m'
  | 0, _, _, _, _, _, _, _, _, _, _, _, _, _, _, _, _, _, hn, _, _, _ => by omega
  | n + 1, i, A, G, m, h, sum, most, r, l, hR, h0, hN, hw, hT, hs, hr, hi, hn, hA, hL, hmo => by
    have x2r : hv_R32 x2 := by omega
    show ∃ m', B_X11_drained_12 (L_X11_drained_12 n) x2 r (sum : Int) (most : Int) m = _ ∧ _
    unfold B_X11_drained_12
    cases l with
    | nil =>
      have hz : h = 0 := (hT.zero hw).mpr rfl
      have r1 : r = -1 := by
        rcases hr with ⟨_, e⟩ | ⟨q, e, gq⟩
        · exact e
        · have := (hR.2.2.2.2.2.2.1 q h gq).1
          omega
      refine ⟨m, ?_, FA.refl m⟩
      rw [r1, hp_lt_t (by decide) (by decide) (by decide)]
      rcases hx2 with e | e
      · rw [hp_eq_t x2r (by decide) e, if_pos e]; rfl
      · rw [hp_eq_f x2r (by decide) (by omega), if_neg (by omega)]
        show some ((most : Int), m) = some (((max most 0 : Nat) : Int), m)
        rw [Nat.max_zero]
    | cons t l =>
      have hz : h ≠ 0 := fun e => by have := (hT.zero hw).mp e; cases this
      obtain ⟨q, rq, gq⟩ : ∃ q : Nat, r = (q : Int) ∧ (g_H G)[q]? = some h := by
        rcases hr with ⟨e, _⟩ | e
        · exact absurd e hz
        · exact e
      simp only [List.length_cons] at hi hn
      have q8 := hR.h8 gq
      obtain ⟨k1, k2, k3, k4, k5⟩ := take_tb hw hlaw hT hs
      obtain ⟨m1, em1⟩ : ∃ m1 : hMem, m1 = hv_up m 65 22 0 := ⟨_, rfl⟩
      have kk : ∀ k, k ≠ 65 → m1 k = m k := fun k hk => by rw [em1, hp_up_kk _ _ _ hk]
      have R1 : Rel (s_take law A h).1 vs G m1 := (hR.px k2).up22 kk (fun j hj => by rw [em1, hp_up_j _ _ _ (by omega)])
      obtain ⟨r', m2, G', a1, a2, a3, a4, a5⟩ := r_take (A := A) (B := (s_take law A h).1) (x := h) (rx := r) R1 hw hlaw hT.or (Px.refl _) (hN.sm (by omega)) (by omega) (Or.inr ⟨q, rq, gq⟩)
      have lk : m2 65 22 = ((s_take law A h).2.2 : Int) := by rw [a3.2.2.2.2.2.2, em1, hp_up_same]; omega
      obtain ⟨m', b1, b2⟩ := r_drainL law hlaw x2 hx2 n (i + 1) (A := (s_take law A h).1) (G := G') (m := m2) (h := (s_take law A h).2.1) (sum := sum + (s_take law A h).2.2) (most := max most (s_take law A h).2.2) (r := r') (l := l) a2 (by rw [a3.k (by omega) (by omega), kk 66 (by omega)]; exact h0) (hN.step a3 k2.len) k1 k3 (List.pairwise_cons.mp hs).2 a4 (by omega) (by omega) (by omega) (by omega) (by omega)
      have F1 : FA m m1 := ⟨fun k a _ => kk k a, fun j hj => by rw [em1, hp_up_j _ _ _ (by omega)]⟩
      refine ⟨m', ?_, (F1.trans a3.fm.fa).trans b2⟩
      rw [hp_lt_f (by omega) (by decide) (by omega), hp_put, ← em1, hp_ald (by decide) (by decide), show m1 66 (0 : Int).toNat = (law : Int) by rw [kk 66 (by omega)]; exact h0, a1, hp_b, hp_set, lk, fe_max (by omega) (by omega), hp_b, show (sum : Int) + ((s_take law A h).2.2 : Int) = ((sum + (s_take law A h).2.2 : Nat) : Int) by omega, show max (most : Int) ((s_take law A h).2.2 : Int) = ((max most (s_take law A h).2.2 : Nat) : Int) by omega, b1]
      show some (_, m') = some ((if x2 = 0 then ((sum + ((s_take law A h).2.2 + (s_drain law l.length (s_take law A h).1 (s_take law A h).2.1).1) : Nat) : Int) else ((max most (max (s_take law A h).2.2 (s_drain law l.length (s_take law A h).1 (s_take law A h).2.1).2) : Nat) : Int)), m')
      rw [Nat.add_assoc, Nat.max_assoc]
theorem r_drained (hA : AV S) (h : RI S m) {j : Nat} (hj : j < (s_vs S).length) {x2 : Int} (hx2 : x2 = 0 ∨ x2 = 1) : ∃ m', f_X11_drained (j : Int) x2 m = some ((if x2 = 0 then ((s_drain (s_la S) (bag (s_vs S) j).length (h_all (s_la S) 99 (s_vs S)).1 (h_top (s_la S) (s_vs S) j)).1 : Int) else ((s_drain (s_la S) (bag (s_vs S) j).length (h_all (s_la S) 99 (s_vs S)).1 (h_top (s_la S) (s_vs S) j)).2 : Int)), m') ∧ FA m m' := by
  have h30 := hA.1.1
  obtain ⟨b1, b2, b3⟩ := bag_ok hA hj
  obtain ⟨m1, G, a1, a2, a3⟩ := r_heapOf hA h hj
  obtain ⟨t1, t2, t3⟩ := a2.tb hA.1 hA.law hj
  have hl := (hi_all hA.law 99 (s_vs S) hA.1).2.2.2.1
  obtain ⟨m', c1, c2⟩ := r_drainL (s_la S) hA.law (vs := s_vs S) x2 hx2 hv_FU 0 (sum := 0) (most := 0) a2.1 (by rw [a3.1 66 (by omega) (by omega)]; exact h.1) a2.2.1 t3 t2 b1 t1 (by omega) (fu_lt (by omega)) (by omega) (by have := a2.2.2.1; omega) (by omega)
  refine ⟨m', ?_, a3.trans c2⟩
  unfold f_X11_drained
  rw [a1, hp_b]
  refine Eq.trans c1 ?_
  rw [Nat.zero_add, Nat.zero_max]
end
