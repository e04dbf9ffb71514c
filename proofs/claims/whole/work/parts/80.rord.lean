/-! the reference: jobs in order -/
theorem jt_inj {vs : List hVr} {t u : Nat} (ht : Jt vs t) (hu : Jt vs u) (e : t % 30 = u % 30) : t = u := by
  obtain ⟨-, c, t2, -⟩ := ht
  obtain ⟨-, d, u2, -⟩ := hu
  rw [e, u2] at t2
  injection t2 with t2
  injection t2 with t2 _
  omega
theorem cnt_pos {l : List Nat} {j : Nat} : 0 < cnt l j ↔ ∃ t ∈ l, t % 30 = j := by
  unfold cnt
  rw [List.countP_pos_iff]
  constructor
  · rintro ⟨t, h1, h2⟩
    exact ⟨t, h1, by simpa using h2⟩
  · rintro ⟨t, h1, h2⟩
    exact ⟨t, h1, by simpa using h2⟩
theorem so_split : ∀ (r : List Nat) (t : Nat), So (t :: r) → ∃ c r', t :: r = List.replicate (c + 1) t ++ r' ∧ ∀ x ∈ r', t < x
  | [], t, _ => ⟨0, [], rfl, fun x hx => by simp at hx⟩
  | x :: r, t, h => by
    have h' := List.pairwise_cons.mp h
    by_cases e : x = t
    · subst e
      obtain ⟨c, r', e1, e2⟩ := so_split r x h'.2
      exact ⟨c + 1, r', by rw [e1]; rfl, e2⟩
    · have hx := h'.1 x (by simp)
      refine ⟨0, x :: r, rfl, fun y hy => ?_⟩
      rcases List.mem_cons.mp hy with e2 | e2
      · omega
      · have := (List.pairwise_cons.mp h'.2).1 y e2
        omega
def b_i (b : Option Nat) : Int := match b with
  | none => -1
  | some t => ((t % 30 : Nat) : Int)
def o_fin (R10 : Int → Int → hMem → hRs) (x2 : Int) (b : Option Nat) (m : hMem) : hRs := hv_lt (b_i b) 0 (L_X11_ordered_86 R10 hv_FU x2 0 (b_i b) 0 m) (L_X11_ordered_86 R10 hv_FU x2 1 (b_i b) 0 m)
section
variable {vs : List hVr} {R10 : Int → Int → hMem → hRs}
theorem r_ord20 {m : hMem} {r : List Nat} {x2 : Int} (hM : RM vs m) (h30 : vs.length ≤ 30) (hr : ∀ t ∈ r, Jt vs t) (ho : ∀ j, j < 30 → m 79 j = (cnt r j : Int)) (hc : r.length ≤ 24) : ∀ (d n i : Nat) (b : Option Nat), i + d = nput vs → d < n → (∀ t ∈ r, t % 30 < i → ∃ t', b = some t' ∧ t' ≤ t) → (∀ t', b = some t' → t' ∈ r) →
    ∃ b', L_X11_ordered_20 R10 n x2 (b_i b) (i : Int) m = o_fin R10 x2 b' m ∧ (∀ t ∈ r, ∃ t', b' = some t' ∧ t' ≤ t) ∧ ∀ t', b' = some t' → t' ∈ r
  | _, 0, _, _, _, hn, _, _ => by omega
  | 0, n + 1, i, b, hi, hn, h1, h2 => by
    have nn := nput_le vs
    refine ⟨b, ?_, fun t ht => h1 t ht (by have := (hr t ht).1; omega), h2⟩
    show B_X11_ordered_20 R10 (L_X11_ordered_20 R10 n) x2 (b_i b) (i : Int) m = _
    unfold B_X11_ordered_20
    rw [hp_ald (by decide) (by decide), show m 66 (3 : Int).toNat = (nput vs : Int) from hM.2.1, hp_lt_f (by omega) (by omega) (by omega)]
    rfl
  | d + 1, n + 1, i, b, hi, hn, h1, h2 => by
    have nn := nput_le vs
    have cl : cnt r i ≤ r.length := List.countP_le_length
    show ∃ b', B_X11_ordered_20 R10 (L_X11_ordered_20 R10 n) x2 (b_i b) (i : Int) m = _ ∧ _
    unfold B_X11_ordered_20
    rw [hp_ald (by decide) (by decide), show m 66 (3 : Int).toNat = (nput vs : Int) from hM.2.1, hp_lt_t (by omega) (by omega) (by omega), hp_ald (by omega) (by omega), Int.toNat_natCast, ho i (by omega)]
    have rec' : ∀ b1 : Option Nat, (∀ t ∈ r, t % 30 < i + 1 → ∃ t', b1 = some t' ∧ t' ≤ t) → (∀ t', b1 = some t' → t' ∈ r) → ∃ b', L_X11_ordered_20 R10 n x2 (b_i b1) ((i : Int) + 1) m = o_fin R10 x2 b' m ∧ (∀ t ∈ r, ∃ t', b' = some t' ∧ t' ≤ t) ∧ ∀ t', b' = some t' → t' ∈ r := fun b1 g1 g2 => by
      exact r_ord20 hM h30 hr ho hc d n (i + 1) b1 (by omega) (by omega) g1 g2
    by_cases c : 0 < cnt r i
    · obtain ⟨t, htr, hti⟩ := cnt_pos.mp c
      rw [hp_lt_t (by decide) (by omega) (by omega)]
      have uniq : ∀ u ∈ r, u % 30 = i → u = t := fun u hu e => jt_inj (hr u hu) (hr t htr) (by omega)
      cases b with
      | none =>
        rw [show b_i none = -1 from rfl, hp_lt_t (by decide) (by decide) (by decide), hp_set]
        have g := rec' (some t) (fun u hu hui => ?_) (fun t' e => by injection e with e; rw [← e]; exact htr)
        · rw [show b_i (some t) = (i : Int) by show ((t % 30 : Nat) : Int) = _; omega] at g
          exact g
        · by_cases cu : u % 30 = i
          · exact ⟨t, rfl, by rw [uniq u hu cu]; exact Nat.le_refl _⟩
          · obtain ⟨t', e, -⟩ := h1 u hu (by omega)
            cases e
      | some t0 =>
        have ht0 := h2 t0 rfl
        have jl := r_jobLess hM h30 (hr t htr) (hr t0 ht0)
        rw [hti] at jl
        rw [show b_i (some t0) = ((t0 % 30 : Nat) : Int) from rfl, hp_lt_f (by omega) (by decide) (by omega), jl, hp_b]
        by_cases ct : t < t0
        · rw [if_pos ct, hp_eq_f (by decide) (by decide) (by decide), hp_set]
          have g := rec' (some t) (fun u hu hui => ?_) (fun t' e => by injection e with e; rw [← e]; exact htr)
          · rw [show b_i (some t) = (i : Int) by show ((t % 30 : Nat) : Int) = _; omega] at g
            exact g
          · refine ⟨t, rfl, ?_⟩
            by_cases cu : u % 30 = i
            · rw [uniq u hu cu]; exact Nat.le_refl _
            · obtain ⟨t', e, hl⟩ := h1 u hu (by omega)
              injection e with e
              omega
        · rw [if_neg ct, hp_eq_t (by decide) (by decide) rfl, hp_set]
          refine rec' (some t0) (fun u hu hui => ?_) (fun t' e => by injection e with e; rw [← e]; exact ht0)
          refine ⟨t0, rfl, ?_⟩
          by_cases cu : u % 30 = i
          · rw [uniq u hu cu]; omega
          · obtain ⟨t', e, hl⟩ := h1 u hu (by omega)
            injection e with e
            omega
    · rw [hp_lt_f (by decide) (by omega) (by omega), hp_set]
      refine rec' b (fun u hu hui => ?_) h2
      by_cases cu : u % 30 = i
      · exact absurd (cnt_pos.mpr ⟨u, hu, cu⟩) c
      · exact h1 u hu (by omega)
/-- the row: jobs in order -/
def Row (p : List Nat) (m : hMem) : Prop := p.length ≤ 24 ∧ ∀ i, i < p.length → m 80 i = ((p.getD i 0 % 30 : Nat) : Int)
theorem Row.snoc {p : List Nat} {m : hMem} (h : Row p m) (hl : p.length < 24) (t : Nat) : Row (p ++ [t]) (hv_up m 80 p.length ((t % 30 : Nat) : Int)) := by
  refine ⟨by rw [List.length_append, List.length_singleton]; omega, fun i hi => ?_⟩
  rw [List.length_append, List.length_singleton] at hi
  by_cases c : i = p.length
  · rw [c, hp_up_same, getD_snoc]
  · rw [hp_up_j _ _ _ c, getD_app _ _ _ (by omega)]
    exact h.2 i (by omega)
theorem r_ord86 {t c : Nat} (hc24 : c ≤ 24) : ∀ (d n k : Nat) (p : List Nat) (m : hMem), k + d = c → d < n → Row p m → p.length + d ≤ 24 → m 79 (t % 30) = (c : Int) → ∃ m', L_X11_ordered_86 R10 n (p.length : Int) 1 ((t % 30 : Nat) : Int) (k : Int) m = J_X11_ordered_119 R10 ((p.length + d : Nat) : Int) 1 ((t % 30 : Nat) : Int) m' ∧ Row (p ++ List.replicate d t) m' ∧ ∀ k, k ≠ 80 → m' k = m k
  | _, 0, _, _, _, _, hn, _, _, _ => by omega
  | 0, n + 1, k, p, m, hk, hn, hp, hl, hc => by
    have t30 : t % 30 < 30 := Nat.mod_lt _ (by decide)
    refine ⟨m, ?_, by rw [List.replicate_zero, List.append_nil]; exact hp, fun _ _ => rfl⟩
    show B_X11_ordered_86 R10 (L_X11_ordered_86 R10 n) (p.length : Int) 1 ((t % 30 : Nat) : Int) (k : Int) m = _
    unfold B_X11_ordered_86
    rw [hp_eq_f (by decide) (by decide) (by decide), hp_ald (by omega) (by omega), Int.toNat_natCast, hc, hp_lt_f (by omega) (by omega) (by omega)]
    rfl
  | d + 1, n + 1, k, p, m, hk, hn, hp, hl, hc => by
    have t30 : t % 30 < 30 := Nat.mod_lt _ (by decide)
    have pl : (p ++ [t]).length = p.length + 1 := by rw [List.length_append]; rfl
    obtain ⟨m', a1, a2, a3⟩ := r_ord86 hc24 d n (k + 1) (p ++ [t]) (hv_up m 80 p.length ((t % 30 : Nat) : Int)) (by omega) (by omega) (hp.snoc (by omega) t) (by omega) (by rw [hp_up_k _ _ _ _ (by omega)]; exact hc)
    rw [pl] at a1
    refine ⟨m', ?_, by rw [List.append_assoc] at a2; exact a2, fun k hk => by rw [a3 k hk, hp_up_kk _ _ _ hk]⟩
    show B_X11_ordered_86 R10 (L_X11_ordered_86 R10 n) (p.length : Int) 1 ((t % 30 : Nat) : Int) (k : Int) m = _
    unfold B_X11_ordered_86
    rw [hp_eq_f (by decide) (by decide) (by decide), hp_ald (by omega) (by omega), Int.toNat_natCast, hc, hp_lt_t (by omega) (by omega) (by omega), hp_ast (by omega) (by omega), Int.toNat_natCast, hp_set, hp_set]
    rw [show p.length + (d + 1) = p.length + 1 + d by omega]
    exact a1
theorem cnt_rep (c t j : Nat) : cnt (List.replicate c t) j = if t % 30 = j then c else 0 := by
  induction c with
  | zero => simp [cnt]
  | succ c ih =>
    rw [List.replicate_succ, cnt_cons, ih]
    split <;> omega
theorem r_ord10 {l : List Nat} (hll : l.length ≤ 24) (hJ : ∀ t ∈ l, Jt vs t) (hso : So l) (h30 : vs.length ≤ 30) : ∀ (n : Nat) (p r : List Nat) (m : hMem), r.length + 1 < n → l = p ++ r → RM vs m → Row p m → (∀ j, j < 30 → m 79 j = (cnt r j : Int)) → ∃ m', L_X11_ordered_10 n (p.length : Int) 1 m = some ((l.length : Int), m') ∧ Row l m' ∧ ∀ k, k ≠ 79 → k ≠ 80 → m' k = m k
  | 0, _, _, _, hn, _, _, _, _ => by omega
  | n + 1, p, r, m, hn, e, hM, hR, ho => by
    have el := congrArg List.length e
    rw [List.length_append] at el
    have hr : ∀ t ∈ r, Jt vs t := fun t ht => hJ t (by rw [e]; simp [ht])
    have nn := nput_le vs
    obtain ⟨b', a1, a2, a3⟩ := r_ord20 (R10 := L_X11_ordered_10 n) (x2 := (p.length : Int)) hM h30 hr ho (by omega) (nput vs) hv_FU 0 none (by omega) (fu_lt (by omega)) (fun t ht h0 => by omega) (fun t' h => by cases h)
    have start : L_X11_ordered_10 (n + 1) (p.length : Int) 1 m = o_fin (L_X11_ordered_10 n) (p.length : Int) b' m := by
      show B_X11_ordered_10 (L_X11_ordered_10 n) (p.length : Int) 1 m = _
      unfold B_X11_ordered_10
      rw [hp_eq_f (by decide) (by decide) (by decide)]
      exact a1
    rw [start]
    cases r with
    | nil =>
      have hb : b' = none := by
        cases b' with
        | none => rfl
        | some t => exact absurd (a3 t rfl) (by simp)
      rw [List.append_nil] at e
      refine ⟨m, ?_, by rw [e]; exact hR, fun _ _ _ => rfl⟩
      obtain ⟨n', rfl⟩ : ∃ n', n = n' + 1 := ⟨n - 1, by omega⟩
      unfold o_fin
      rw [hb, show b_i none = -1 from rfl, hp_lt_t (by decide) (by decide) (by decide)]
      show B_X11_ordered_86 (L_X11_ordered_10 (n' + 1)) (L_X11_ordered_86 (L_X11_ordered_10 (n' + 1)) 999999) (p.length : Int) 0 (-1) 0 m = _
      unfold B_X11_ordered_86
      rw [hp_eq_t (by decide) (by decide) rfl]
      unfold J_X11_ordered_119 J_X11_ordered_131
      rw [hp_eq_t (by decide) (by decide) rfl]
      show B_X11_ordered_10 (L_X11_ordered_10 n') (p.length : Int) 0 m = _
      unfold B_X11_ordered_10
      rw [hp_eq_t (by decide) (by decide) rfl, e]
      rfl
    | cons t r =>
      obtain ⟨t', hb, hle⟩ := a2 t (by simp)
      have hso2 : So (t :: r) := by rw [e] at hso; exact (List.pairwise_append.mp hso).2.1
      have ht' := a3 t' hb
      have ett : t' = t := by
        rcases List.mem_cons.mp ht' with c | c
        · exact c
        · have := (List.pairwise_cons.mp hso2).1 t' c
          omega
      rw [ett] at hb
      obtain ⟨c, r', e1, e2⟩ := so_split r t hso2
      have t30 : t % 30 < 30 := Nat.mod_lt _ (by decide)
      have e1l := congrArg List.length e1
      rw [List.length_append, List.length_replicate] at e1l
      have z0 : cnt r' (t % 30) = 0 := by
        rcases Nat.eq_zero_or_pos (cnt r' (t % 30)) with z | z
        · exact z
        · obtain ⟨u, hu, hut⟩ := cnt_pos.mp z
          have : u = t := jt_inj (hr u (by rw [e1]; simp [hu])) (hr t (by simp)) hut
          have := e2 u hu
          omega
      have cc : cnt (t :: r) (t % 30) = c + 1 := by rw [e1, cnt_app, cnt_rep, if_pos rfl, z0]
      obtain ⟨m1, b1, b2, b3⟩ := r_ord86 (R10 := L_X11_ordered_10 n) (t := t) (c := c + 1) (by omega) (c + 1) hv_FU 0 p m (by omega) (fu_lt (by omega)) hR (by omega) (by rw [ho _ t30, cc])
      obtain ⟨m2, em2⟩ : ∃ m2 : hMem, m2 = hv_up m1 79 (t % 30) 0 := ⟨_, rfl⟩
      have pl : (p ++ List.replicate (c + 1) t).length = p.length + (c + 1) := by rw [List.length_append, List.length_replicate]
      obtain ⟨m', d1, d2, d3⟩ := r_ord10 hll hJ hso h30 n (p ++ List.replicate (c + 1) t) r' m2 (by omega) (by rw [List.append_assoc, ← e1]; exact e) ((hM.eq (b3 66 (by omega))).eq (by rw [em2, hp_up_kk _ _ _ (by omega)])) (by
        refine ⟨b2.1, fun i hi => ?_⟩
        rw [em2, hp_up_k _ _ _ _ (by omega)]
        exact b2.2 i hi) (fun j hj => by
        by_cases cj : j = t % 30
        · rw [cj, em2, hp_up_same, z0]; rfl
        · rw [em2, hp_up_j _ _ _ cj, b3 79 (by omega), ho j hj, e1, cnt_app, cnt_rep, if_neg (fun h => cj h.symm)]
          omega)
      rw [pl] at d1
      refine ⟨m', ?_, d2, fun k k1 k2 => by rw [d3 k k1 k2, em2, hp_up_kk _ _ _ k1, b3 k k2]⟩
      unfold o_fin
      rw [hb, show b_i (some t) = ((t % 30 : Nat) : Int) from rfl, hp_lt_f (by omega) (by decide) (by omega)]
      refine Eq.trans b1 ?_
      unfold J_X11_ordered_119 J_X11_ordered_131
      rw [hp_eq_f (by decide) (by decide) (by decide), hp_ast (by omega) (by omega), Int.toNat_natCast, ← em2]
      exact d1
end
theorem r_ordered {law : Nat} {B : hA} {vs : List hVr} {G : hG} (hw : Wf law B) {m : hMem} (h : Rel B vs G m) {r : Int} {a : Nat} {l : List Nat} (hr : Hp G r a) (hT : Tb B a l) (hll : l.length ≤ 24) (hJ : ∀ t ∈ l, Jt vs t) (hso : So l) : ∃ m', f_X11_ordered r m = some ((l.length : Int), m') ∧ Row l m' ∧ ∀ k, k ≠ 79 → k ≠ 80 → m' k = m k := by
  obtain ⟨m1, a1, a2, a3⟩ := r_countsAll hw h hr hT
  obtain ⟨m', b1, b2, b3⟩ := r_ord10 hll hJ hso h.2.2.2.2.2.1 hv_FU [] l m1 (fu_lt (by omega)) rfl (h.2.2.2.2.1.eq (a2 66 (by omega))) ⟨Nat.zero_le _, fun i hi => by simp at hi⟩ a3
  refine ⟨m', ?_, b2, fun k k1 k2 => by rw [b3 k k1 k2, a2 k k1]⟩
  unfold f_X11_ordered
  rw [a1, hp_b]
  exact b1
