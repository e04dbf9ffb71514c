/-! calls on both: fewest hands; acts -/
def nl : List Nat → List (Nat × Nat) → Nat
  | t :: l, w :: ws => (if t / 30 < w.2 then 1 else 0) + nl l ws
  | _, _ => 0
theorem st4_nl : ∀ (l : List Nat) (ws : List (Nat × Nat)) (q : Nat × Nat × Nat × Nat), (st4 q l ws).2.1 = q.2.1 + nl l ws
  | [], ws, q => by
    have e : st4 q [] ws = q := by cases ws <;> rfl
    have e2 : nl [] ws = 0 := by cases ws <;> rfl
    rw [e, e2]; rfl
  | t :: l, [], q => rfl
  | t :: l, w :: ws, q => by
    have g := st4_nl l ws (max q.1 w.2, (if t / 30 < w.2 then q.2.1 + 1 else q.2.1), q.2.2.1 + (w.2 - t / 30), max q.2.2.2 (w.2 - t / 30))
    show (st4 (max q.1 w.2, (if t / 30 < w.2 then q.2.1 + 1 else q.2.1), q.2.2.1 + (w.2 - t / 30), max q.2.2.2 (w.2 - t / 30)) l ws).2.1 = q.2.1 + ((if t / 30 < w.2 then 1 else 0) + nl l ws)
    rw [g]
    show (if t / 30 < w.2 then q.2.1 + 1 else q.2.1) + nl l ws = _
    split <;> omega
def fhs (vs : List hVr) (l : List Nat) : Nat → Nat → Int
  | 0, _ => -1
  | d + 1, H => if (st_all vs H l).2.1 = 0 then (H : Int) else fhs vs l d (H + 1)
theorem fhs_r (vs : List hVr) (l : List Nat) : ∀ (d H : Nat), H + d ≤ 9 → -1 ≤ fhs vs l d H ∧ fhs vs l d H ≤ 9
  | 0, _, _ => ⟨by show (-1 : Int) ≤ -1; omega, by show (-1 : Int) ≤ 9; omega⟩
  | d + 1, H, h => by
    have g := fhs_r vs l d (H + 1) (by omega)
    show -1 ≤ (if (st_all vs H l).2.1 = 0 then (H : Int) else fhs vs l d (H + 1)) ∧ (if (st_all vs H l).2.1 = 0 then (H : Int) else fhs vs l d (H + 1)) ≤ 9
    split <;> omega
section
variable {S : hS} {r : Nat} {m : hMem}
theorem r_hand32 {vs : List hVr} {l : List Nat} {ws : List (Nat × Nat)} {R13 : Int → Int → hMem → hRs} {x1 : Int} {H : Nat} {m : hMem} (h30 : vs.length ≤ 30) (H8 : H ≤ 8) (hl : ∀ t ∈ l, Jt vs t) (hR : Row l m) (hM : RM vs m) (hw : ∀ i, i < l.length → m 85 i = ((ws.getD i (0, 0)).2 : Int)) (hle : ∀ w ∈ ws, w.2 ≤ 90000) : ∀ (q p : List Nat) (wr wp : List (Nat × Nat)) (n f : Nat), q.length < n → l = p ++ q → ws = wp ++ wr → wp.length = p.length → wr.length = q.length → f ≤ 1 → L_X11_hands_32 R13 n x1 (H : Int) (l.length : Int) (f : Int) (p.length : Int) m = if f = 0 ∧ nl q wr = 0 then some ((H : Int), m) else R13 x1 ((H : Int) + 1) m
  | _, _, _, _, 0, _, hn, _, _, _, _, _ => by omega
  | [], p, wr, wp, n + 1, f, hn, e, ew, hp, hr, hf => by
    have l24 := hR.1
    have el := congrArg List.length e
    rw [List.append_nil] at el
    have en : nl [] wr = 0 := by cases wr <;> rfl
    show B_X11_hands_32 R13 (L_X11_hands_32 R13 n) x1 (H : Int) (l.length : Int) (f : Int) (p.length : Int) m = _
    unfold B_X11_hands_32
    rw [hp_lt_f (by omega) (by omega) (by omega), en]
    by_cases c : f = 0
    · rw [hp_eq_t (by omega) (by decide) (by omega), if_pos ⟨c, rfl⟩]; rfl
    · rw [hp_eq_f (by omega) (by decide) (by omega), if_neg (fun h => c h.1), hp_set]
  | t :: q, p, [], wp, n + 1, f, hn, e, ew, hp, hr, hf => by simp at hr
  | t :: q, p, w :: wr, wp, n + 1, f, hn, e, ew, hp, hr, hf => by
    have l24 := hR.1
    have el := congrArg List.length e
    rw [List.length_append, List.length_cons] at el
    simp only [List.length_cons] at hn hr
    have ht := hl t (by rw [e]; simp)
    have tj := tm_jt ht
    have tl := ht.2.choose_spec.2.1
    have t30 : t % 30 < 30 := Nat.mod_lt _ (by decide)
    have e80 : m 80 p.length = ((t % 30 : Nat) : Int) := by rw [hR.2 p.length (by omega), e, getD_mid]
    have e126 := (hM.2.2.2 _ _ _ tj).1
    have w9 := hle w (by rw [ew]; simp)
    have e85 : m 85 p.length = (w.2 : Int) := by
      rw [hw p.length (by omega), ew, ← hp]
      rw [List.getD_eq_getElem?_getD, List.getElem?_append_right (Nat.le_refl _), Nat.sub_self]
      rfl
    have pl : (p ++ [t]).length = p.length + 1 := by rw [List.length_append]; rfl
    have rec' : ∀ f' : Nat, f' ≤ 1 → L_X11_hands_32 R13 n x1 (H : Int) (l.length : Int) (f' : Int) ((p.length : Int) + 1) m = if f' = 0 ∧ nl q wr = 0 then some ((H : Int), m) else R13 x1 ((H : Int) + 1) m := fun f' hf' => by
      have g := r_hand32 (R13 := R13) (x1 := x1) h30 H8 hl hR hM hw hle q (p ++ [t]) wr (wp ++ [w]) n f' (by omega) (by rw [e]; simp) (by rw [ew]; simp) (by simp [hp]) (by omega) hf'
      rw [pl] at g
      exact g
    show B_X11_hands_32 R13 (L_X11_hands_32 R13 n) x1 (H : Int) (l.length : Int) (f : Int) (p.length : Int) m = if f = 0 ∧ (if t / 30 < w.2 then 1 else 0) + nl q wr = 0 then some ((H : Int), m) else R13 x1 ((H : Int) + 1) m
    unfold B_X11_hands_32
    rw [hp_lt_t (by omega) (by omega) (by omega)]
    by_cases c : f = 0
    · rw [hp_eq_t (by omega) (by decide) (by omega), hp_ald (by omega) (by omega), hp_ald (by omega) (by omega), Int.toNat_natCast, e85, e80, hp_ald (by omega) (by omega), show ((126 : Int) + ((t % 30 : Nat) : Int)).toNat = 126 + t % 30 by omega, e126]
      by_cases cl : t / 30 < w.2
      · have g := rec' 1 (by omega)
        rw [if_neg (by omega)] at g
        rw [hp_lt_t (by omega) (by omega) (by omega), hp_set, if_pos cl, if_neg (by omega)]
        exact g
      · have g := rec' 0 (by omega)
        rw [hp_lt_f (by omega) (by omega) (by omega), hp_set, if_neg cl]
        refine Eq.trans g ?_
        by_cases z : nl q wr = 0
        · rw [if_pos ⟨rfl, z⟩, if_pos ⟨c, by omega⟩]
        · rw [if_neg (fun h => z h.2), if_neg (by omega)]
    · have g := rec' 1 (by omega)
      rw [if_neg (by omega)] at g
      rw [hp_eq_f (by omega) (by decide) (by omega), hp_set, if_neg (fun h => c h.1)]
      exact g
theorem r_handsL (hA : AW S) {j : Nat} (hj : j < (s_vs S).length) : ∀ (d n H : Nat) (m : hMem), H + d = 9 → d < n → 1 ≤ H → RI S m → ∃ m', L_X11_hands_13 n (j : Int) (H : Int) m = some (fhs (s_vs S) (bag (s_vs S) j) d H, m') ∧ FA m m'
  | _, 0, _, _, _, hn, _, _ => by omega
  | 0, n + 1, H, m, hH, hn, H1, hm => by
    refine ⟨m, ?_, FA.refl m⟩
    show B_X11_hands_13 (L_X11_hands_13 n) (j : Int) (H : Int) m = _
    unfold B_X11_hands_13
    rw [hp_lt_t (by decide) (by omega) (by omega)]
    rfl
  | d + 1, n + 1, H, m, hH, hn, H1, hm => by
    have h30 := hA.1.1.1
    obtain ⟨b1, b2, b3⟩ := bag_ok hA.1 hj
    obtain ⟨m2, d1, d2, d3⟩ := r_does hA.1 hm hj H1 (by omega)
    have g := r_hand32 (vs := s_vs S) (l := bag (s_vs S) j) (ws := ws_all (s_vs S) H (bag (s_vs S) j)) (R13 := L_X11_hands_13 n) (x1 := (j : Int)) (H := H) (m := m2) h30 (by omega) b3 d2.1 (d3.ri hm).2.2.2.2.1 (fun i hi => (d2.2 i hi).2) (fun w hw => by
      have := wk_le (hands := H) (tm_99 (s_vs S)) (bag (s_vs S) j) (fun _ => 0) 0 (fun _ => Nat.le_refl _) w hw
      omega) (bag (s_vs S) j) [] (ws_all (s_vs S) H (bag (s_vs S) j)) [] hv_FU 0 (fu_lt (by omega)) rfl rfl rfl (wk_len _ _ _ _) (by omega)
    have g : L_X11_hands_32 (L_X11_hands_13 n) hv_FU (j : Int) (H : Int) ((bag (s_vs S) j).length : Int) 0 0 m2 = _ := g
    have st : (st_all (s_vs S) H (bag (s_vs S) j)).2.1 = nl (bag (s_vs S) j) (ws_all (s_vs S) H (bag (s_vs S) j)) := by
      unfold st_all
      rw [st4_nl]
      show 0 + _ = _
      omega
    show ∃ m', B_X11_hands_13 (L_X11_hands_13 n) (j : Int) (H : Int) m = some ((if (st_all (s_vs S) H (bag (s_vs S) j)).2.1 = 0 then (H : Int) else fhs (s_vs S) (bag (s_vs S) j) d (H + 1)), m') ∧ _
    unfold B_X11_hands_13
    rw [hp_lt_f (by decide) (by omega) (by omega), d1, hp_b, g, st]
    by_cases z : nl (bag (s_vs S) j) (ws_all (s_vs S) H (bag (s_vs S) j)) = 0
    · rw [if_pos ⟨rfl, z⟩, if_pos z]
      exact ⟨m2, rfl, d3⟩
    · rw [if_neg (fun h => z h.2), if_neg z]
      obtain ⟨m', e1, e2⟩ := r_handsL hA hj d n (H + 1) m2 (by omega) (by omega) (by omega) (d3.ri hm)
      exact ⟨m', e1, d3.trans e2⟩
theorem c_handsL (hA : AW S) {j : Nat} (hj : j < (s_vs S).length) : ∀ (d n H : Nat) (m : hMem), H + d = 9 → d < n → 1 ≤ H → CI S r m → ∃ m', L_X10_hands_13 n (j : Int) (H : Int) m = some (fhs (s_vs S) (bag (s_vs S) j) d H, m') ∧ CI S r m' ∧ FC m m'
  | _, 0, _, _, _, hn, _, _ => by omega
  | 0, n + 1, H, m, hH, hn, H1, hC => by
    refine ⟨m, ?_, hC, FC.refl m⟩
    show B_X10_hands_13 (L_X10_hands_13 n) (j : Int) (H : Int) m = _
    unfold B_X10_hands_13
    rw [hp_lt_t (by decide) (by omega) (by omega)]
    rfl
  | d + 1, n + 1, H, m, hH, hn, H1, hC => by
    obtain ⟨m1, a1, a2, a3, a4, a5, a6, a7, a8, a9⟩ := ci_work hA hC hj H1 (by omega)
    have sl := st_le (s_vs S) H (bag_ok hA.1 hj).2.1
    show ∃ m', B_X10_hands_13 (L_X10_hands_13 n) (j : Int) (H : Int) m = some ((if (st_all (s_vs S) H (bag (s_vs S) j)).2.1 = 0 then (H : Int) else fhs (s_vs S) (bag (s_vs S) j) d (H + 1)), m') ∧ _
    unfold B_X10_hands_13 f_X5_late
    rw [hp_lt_f (by decide) (by omega) (by omega), a1, hp_b, a4]
    by_cases z : (st_all (s_vs S) H (bag (s_vs S) j)).2.1 = 0
    · refine ⟨m1, ?_, a8, a9⟩
      rw [if_pos z]
      show hv_b (some (_, m1)) _ = _
      rw [hp_b, hp_eq_t (by omega) (by decide) (by omega)]
      rfl
    · obtain ⟨m', e1, e2, e3⟩ := c_handsL hA hj d n (H + 1) m1 (by omega) (by omega) (by omega) a8
      refine ⟨m', ?_, e2, a9.trans e3⟩
      rw [if_neg z]
      show hv_b (some (_, m1)) _ = _
      rw [hp_b, hp_eq_f (by omega) (by decide) (by omega), hp_set]
      exact e1
theorem op_hands (hA : AW S) (hC : CI S r m) (hR : RI S m) {x : Int} (hx : hv_R32 x) : Res (f_X10_hands x) (f_X11_hands x) r m := by
  by_cases c : 0 ≤ x ∧ x < ((s_vs S).length : Int)
  · obtain ⟨j, ex, hj⟩ := is_nat c
    subst ex
    have fr := fhs_r (s_vs S) (bag (s_vs S) j) 8 1 (by omega)
    obtain ⟨m1, a1, a2, a3⟩ := c_handsL hA hj 8 hv_FU 1 m (by omega) (fu_lt (by omega)) (by omega) hC
    refine ask (v := fhs (s_vs S) (bag (s_vs S) j) 8 1) hA hR ⟨m1, r, ?_, a2, a3, by omega⟩ (fun m hm => ?_) (by omega)
    · unfold f_X10_hands
      rw [c_yes hA hC hx c]
      exact a1
    · obtain ⟨m2, b1, b2⟩ := r_handsL hA hj 8 hv_FU 1 m (by omega) (fu_lt (by omega)) (by omega) hm
      refine ⟨m2, ?_, b2⟩
      unfold f_X11_hands
      rw [r_yes hA hm hx c]
      exact b1
  · refine ask (v := -2) hA hR (same_c hC ?_) (same_r (fun m hm => ?_)) (by decide)
    · unfold f_X10_hands; rw [c_not hA hC hx c]; rfl
    · unfold f_X11_hands; rw [r_not hA hm hx c]; rfl
/-- an act: a version more -/
theorem act_c (hA : AW S) (hC : CI S r m) {v : hVr} (hos : Os (s_vs S ++ [v])) {x1 x2 x3 x4 x5 : Int} (gb : Gb v x1 x2 x3) (hk : v_how v = 1 → x4 = ((v_tu v / 30 : Nat) : Int) ∧ x5 = (v_ti v : Int)) : ∃ m', f_X10_grow x1 x2 x3 x4 x5 m = some (((s_vs S).length : Int), m') ∧ CI (S.1, s_vs S ++ [v], s_bs S, s_ff S) r m' ∧ FC m m' := by
  obtain ⟨i1, i2, i3, i4, ⟨R0, R1, i5⟩, i6, i7, i8, i9, i10, i11⟩ := hC
  obtain ⟨m', R0', R1', a1, a2, a3⟩ := c_growAll hos i5 gb hk
  refine ⟨m', a1, ⟨by rw [a3 0 (by omega)]; exact i1, by rw [a3 0 (by omega)]; exact i2, by rw [a3 0 (by omega)]; exact i3, by rw [a3 0 (by omega)]; exact i4, ⟨R0', R1', a2⟩, i6.eq (a3 1 (by omega)) (a3 2 (by omega)), by rw [a3 3 (by omega)]; exact i7, by rw [a3 3 (by omega)]; exact i8, i9.eq (a3 10 (by omega)), by rw [a3 58 (by omega)]; exact i10, fun c hc => by rw [a3 59 (by omega)]; exact i11 c hc⟩, fun k hk => a3 k (by omega)⟩
theorem act_r (hm : RI S m) {v : hVr} (hos : Os (s_vs S ++ [v])) {x1 x2 x3 x4 x5 : Int} (gb : Gb v x1 x2 x3) (hk : v_how v = 1 → x4 = ((v_tu v / 30 : Nat) : Int) ∧ x5 = (v_ti v : Int)) : ∃ m', f_X11_acts x1 x2 x3 x4 x5 0 m = some (((s_vs S).length : Int), m') ∧ RI (S.1, s_vs S ++ [v], s_bs S, s_ff S) m' ∧ FR m m' := by
  have h30 := (os_snoc.mp hos).2.1
  obtain ⟨h1, h2, h3, h4, h5, h6, h7, h8⟩ := hm
  obtain ⟨m', a1, a2, a3, a4⟩ := r_makes hos h5 gb hk
  refine ⟨m', ?_, ⟨by rw [a4 0 (by omega)]; exact h1, by rw [a4 1 (by omega)]; exact h2, by rw [a4 4 (by omega)]; exact h3, by rw [a4 5 (by omega)]; exact h4, a2, ⟨by rw [a3 65 (by omega)]; exact h6.1, fun i hi => by rw [a3 68 (by omega)]; exact h6.2 i hi⟩, by rw [a3 65 (by omega)]; exact h7, by rw [a3 65 (by omega)]; exact h8⟩, fun k hk => a3 k (by omega)⟩
  unfold f_X11_acts
  rw [hp_ald (by decide) (by decide), show m 66 (2 : Int).toNat = ((s_vs S).length : Int) from h5.1, hp_eq_f (by omega) (by decide) (by omega), hp_eq_t (by decide) (by decide) rfl, a1, hp_b, hp_ald (by decide) (by decide), show m' 66 (2 : Int).toNat = ((s_vs S ++ [v]).length : Int) from a2.1, List.length_append, List.length_singleton]
  show some (_, m') = some (_, m')
  rw [show (((s_vs S).length + 1 : Nat) : Int) - 1 = ((s_vs S).length : Int) by omega]
theorem act_aw (hA : AW S) {v : hVr} (hos : Os (s_vs S ++ [v])) (hl : s_li S ≠ 0) : AW (S.1, s_vs S ++ [v], s_bs S, s_ff S) := by
  obtain ⟨⟨v1, v2, v3, v4, v5, v6, v7, v8, v9, v10, v11, v12⟩, v13, v14⟩ := hA
  refine ⟨⟨hos, v2, v3, ?_, v5, v6, fun e => absurd e hl, v8, v9, v10, v11, v12⟩, v13, v14⟩
  show s_to S ≤ (s_vs S ++ [v]).length
  rw [List.length_append]
  omega
theorem li_ne (hA : AW S) {j : Nat} (hj : j < (s_vs S).length) : s_li S ≠ 0 := fun e => by rw [hA.1.2.2.2.2.2.2.1 e] at hj; simp at hj
/-- an act on both -/
theorem act_both {f g : hMem → hRs} (hA : AW S) (hC : CI S r m) (hR : RI S m) (hl : s_li S ≠ 0) {v : hVr} (hos : Os (s_vs S ++ [v])) {x1 x2 x3 x4 x5 : Int} (gb : Gb v x1 x2 x3) (hk : v_how v = 1 → x4 = ((v_tu v / 30 : Nat) : Int) ∧ x5 = (v_ti v : Int)) (hf : f m = hv_b (f_X10_grow x1 x2 x3 x4 x5 m) (fun r7 m8 => hv_ret r7 m8)) (hg : ∀ m, RI S m → g m = hv_b (f_X11_acts x1 x2 x3 x4 x5 0 m) (fun r1 m2 => hv_ret r1 m2)) : Res f g r m := by
  have h30 := (os_snoc.mp hos).2.1
  obtain ⟨m1, a1, a2, a3⟩ := act_c hA hC hos gb hk
  obtain ⟨m2, b1, b2, b3⟩ := act_r (hR.fc a3) hos gb hk
  exact ⟨((s_vs S).length : Int), m1, m2, _, r, by rw [hf, a1, hp_b]; rfl, by rw [hg m1 (hR.fc a3), b1, hp_b]; rfl, by omega, act_aw hA hos hl, a2.fr b3, b2, by omega⟩
theorem r_acts5 (hm : RI S m) (h30 : (s_vs S).length = 30) {x1 x2 x3 x4 x5 x6 : Int} : f_X11_acts x1 x2 x3 x4 x5 x6 m = some (-5, m) := by
  unfold f_X11_acts
  rw [hp_ald (by decide) (by decide), show m 66 (2 : Int).toNat = ((s_vs S).length : Int) from hm.2.2.2.2.1.1, hp_eq_t (by omega) (by decide) (by omega)]
  rfl
theorem r_acts3 (hm : RI S m) (h30 : (s_vs S).length < 30) {x1 x2 x3 x4 x5 : Int} : f_X11_acts x1 x2 x3 x4 x5 1 m = some (-3, m) := by
  unfold f_X11_acts
  rw [hp_ald (by decide) (by decide), show m 66 (2 : Int).toNat = ((s_vs S).length : Int) from hm.2.2.2.2.1.1, hp_eq_f (by omega) (by decide) (by omega), hp_eq_f (by decide) (by decide) (by decide)]
  rfl
theorem r_size (hm : RI S m) {j : Nat} (hj : j < (s_vs S).length) : m 66 (186 + j) = ((bag (s_vs S) j).length : Int) := by
  obtain ⟨v, hv⟩ : ∃ v, (s_vs S)[j]? = some v := ⟨_, List.getElem?_eq_getElem hj⟩
  exact (hm.2.2.2.2.1.2.2.1 j v hv).2.2.2.2
theorem op_puts (hA : AW S) (hC : CI S r m) (hR : RI S m) {x y z : Int} (hx : hv_R32 x) (hy : hv_R32 y) (hz : hv_R32 z) : Res (f_X10_puts x y z) (f_X11_puts x y z) r m := by
  have h30 := hA.1.1.1
  by_cases c : 0 ≤ x ∧ x < ((s_vs S).length : Int)
  · obtain ⟨j, ex, hj⟩ := is_nat c
    subst ex
    obtain ⟨b1, b2, b3⟩ := bag_ok hA.1 hj
    by_cases cy : 0 ≤ y ∧ y ≤ 999
    · by_cases cz : 1 ≤ z ∧ z ≤ 99
      · have fc : f_X10_puts (j : Int) y z m = hv_lt ((s_vs S).length : Int) 30 (hv_lt ((bag (s_vs S) j).length : Int) 24 (hv_b (f_X10_grow 1 (j : Int) (-1) y z m) (fun r7 m8 => hv_ret r7 m8)) (hv_ret (-3) m)) (hv_ret (-5) m) := by
          unfold f_X10_puts
          rw [c_yes hA hC hx c, hp_lt_f hy (by decide) (by omega), hp_lt_f (by decide) hy (by omega), hp_lt_f hz (by decide) (by omega), hp_lt_f (by decide) hz (by omega), ci_vs hC, hp_b, g_size (ci_bag hC hj) (by omega), hp_b]
        have fg : ∀ m, RI S m → f_X11_puts (j : Int) y z m = hv_eq ((bag (s_vs S) j).length : Int) 24 (hv_b (f_X11_acts 1 (j : Int) (-1) y z 1 m) (fun r1 m2 => hv_ret r1 m2)) (hv_b (f_X11_acts 1 (j : Int) (-1) y z 0 m) (fun r1 m2 => hv_ret r1 m2)) := fun m hm => by
          unfold f_X11_puts J_X11_puts_61
          rw [r_yes hA hm hx c, hp_rg hy, fe_in hy (by decide) (by decide), hp_b, if_pos cy, hp_eq_f (by decide) (by decide) (by decide), hp_rg hz, fe_in hz (by decide) (by decide), hp_b, if_pos cz, hp_eq_f (by decide) (by decide) (by decide), hp_ald (by omega) (by omega), show ((186 : Int) + (j : Int)).toNat = 186 + j by omega, r_size hm hj]
        by_cases c30 : (s_vs S).length = 30
        · refine ask (v := -5) hA hR (same_c hC ?_) (same_r (fun m hm => ?_)) (by decide)
          · rw [fc, hp_lt_f (by omega) (by decide) (by omega)]; rfl
          · rw [fg m hm, r_acts5 hm c30, r_acts5 hm c30]
            by_cases q : (bag (s_vs S) j).length = 24
            · rw [hp_eq_t (by omega) (by decide) (by omega), hp_b]; rfl
            · rw [hp_eq_f (by omega) (by decide) (by omega), hp_b]; rfl
        · by_cases q : (bag (s_vs S) j).length = 24
          · refine ask (v := -3) hA hR (same_c hC ?_) (same_r (fun m hm => ?_)) (by decide)
            · rw [fc, hp_lt_t (by omega) (by decide) (by omega), hp_lt_f (by omega) (by decide) (by omega)]; rfl
            · rw [fg m hm, r_acts3 hm (by omega), hp_eq_t (by omega) (by decide) (by omega), hp_b]; rfl
          · have nn := nput_le (s_vs S)
            have hos : Os (s_vs S ++ [(1, j, 0, y.toNat * 30 + nput (s_vs S), z.toNat)]) := os_snoc.mpr ⟨hA.1.1, by omega, Or.inr (Or.inl ⟨rfl, hj, ⟨y.toNat, by omega, rfl⟩, by show 1 ≤ z.toNat; omega, by show z.toNat ≤ 99; omega, by show (bag (s_vs S) j).length ≤ 23; omega⟩)⟩
            refine act_both (x1 := 1) (x2 := (j : Int)) (x3 := -1) (x4 := y) (x5 := z) hA hC hR (li_ne hA hj) hos ⟨rfl, rfl, rfl⟩ (fun _ => ⟨?_, ?_⟩) ?_ (fun m hm => ?_)
            · show y = (((y.toNat * 30 + nput (s_vs S)) / 30 : Nat) : Int)
              omega
            · show z = ((z.toNat : Nat) : Int)
              omega
            · rw [fc, hp_lt_t (by omega) (by decide) (by omega), hp_lt_t (by omega) (by decide) (by omega)]
            · rw [fg m hm, hp_eq_f (by omega) (by decide) (by omega)]
      · refine ask (v := -2) hA hR (same_c hC ?_) (same_r (fun m hm => ?_)) (by decide)
        · unfold f_X10_puts
          rw [c_yes hA hC hx c, hp_lt_f hy (by decide) (by omega), hp_lt_f (by decide) hy (by omega)]
          by_cases q : z < 1
          · rw [hp_lt_t hz (by decide) q]; rfl
          · rw [hp_lt_f hz (by decide) (by omega), hp_lt_t (by decide) hz (by omega)]; rfl
        · unfold f_X11_puts
          rw [r_yes hA hm hx c, hp_rg hy, fe_in hy (by decide) (by decide), hp_b, if_pos cy, hp_eq_f (by decide) (by decide) (by decide), hp_rg hz, fe_in hz (by decide) (by decide), hp_b, if_neg cz, hp_eq_t (by decide) (by decide) rfl]; rfl
    · refine ask (v := -2) hA hR (same_c hC ?_) (same_r (fun m hm => ?_)) (by decide)
      · unfold f_X10_puts
        rw [c_yes hA hC hx c]
        by_cases q : y < 0
        · rw [hp_lt_t hy (by decide) q]; rfl
        · rw [hp_lt_f hy (by decide) (by omega), hp_lt_t (by decide) hy (by omega)]; rfl
      · unfold f_X11_puts
        rw [r_yes hA hm hx c, hp_rg hy, fe_in hy (by decide) (by decide), hp_b, if_neg cy, hp_eq_t (by decide) (by decide) rfl]; rfl
  · refine ask (v := -2) hA hR (same_c hC ?_) (same_r (fun m hm => ?_)) (by decide)
    · unfold f_X10_puts; rw [c_not hA hC hx c]; rfl
    · unfold f_X11_puts; rw [r_not hA hm hx c]; rfl
theorem op_joins (hA : AW S) (hC : CI S r m) (hR : RI S m) {x y : Int} (hx : hv_R32 x) (hy : hv_R32 y) : Res (f_X10_joins x y) (f_X11_joins_ x y) r m := by
  have h30 := hA.1.1.1
  by_cases c : 0 ≤ x ∧ x < ((s_vs S).length : Int)
  · obtain ⟨i, ex, hi⟩ := is_nat c
    subst ex
    by_cases d : 0 ≤ y ∧ y < ((s_vs S).length : Int)
    · obtain ⟨j, ey, hj⟩ := is_nat d
      subst ey
      have b2 := (bag_ok hA.1 hi).2.1
      have d2 := (bag_ok hA.1 hj).2.1
      have fc : f_X10_joins (i : Int) (j : Int) m = hv_lt ((s_vs S).length : Int) 30 (hv_lt 24 (((bag (s_vs S) i).length : Int) + ((bag (s_vs S) j).length : Int)) (hv_ret (-3) m) (hv_b (f_X10_grow 2 (i : Int) (j : Int) 0 0 m) (fun r11 m12 => hv_ret r11 m12))) (hv_ret (-5) m) := by
        unfold f_X10_joins
        rw [c_yes hA hC hx c, c_yes hA hC hy d, ci_vs hC, hp_b, g_size (ci_bag hC hi) (by omega), hp_b, g_size (ci_bag hC hj) (by omega), hp_b]
      have fg : ∀ m, RI S m → f_X11_joins_ (i : Int) (j : Int) m = hv_lt 24 (((bag (s_vs S) i).length : Int) + ((bag (s_vs S) j).length : Int)) (hv_b (f_X11_acts 2 (i : Int) (j : Int) 0 0 1 m) (fun r1 m2 => hv_ret r1 m2)) (hv_b (f_X11_acts 2 (i : Int) (j : Int) 0 0 0 m) (fun r1 m2 => hv_ret r1 m2)) := fun m hm => by
        unfold f_X11_joins_ J_X11_joins__56
        rw [r_yes hA hm hx c, r_yes hA hm hy d, hp_ald (by omega) (by omega), show ((186 : Int) + (i : Int)).toNat = 186 + i by omega, r_size hm hi, hp_ald (by omega) (by omega), show ((186 : Int) + (j : Int)).toNat = 186 + j by omega, r_size hm hj]
      by_cases c30 : (s_vs S).length = 30
      · refine ask (v := -5) hA hR (same_c hC ?_) (same_r (fun m hm => ?_)) (by decide)
        · rw [fc, hp_lt_f (by omega) (by decide) (by omega)]; rfl
        · rw [fg m hm, r_acts5 hm c30, r_acts5 hm c30]
          by_cases q : 24 < ((bag (s_vs S) i).length : Int) + ((bag (s_vs S) j).length : Int)
          · rw [hp_lt_t (by decide) (by omega) q, hp_b]; rfl
          · rw [hp_lt_f (by decide) (by omega) (by omega), hp_b]; rfl
      · by_cases q : 24 < ((bag (s_vs S) i).length : Int) + ((bag (s_vs S) j).length : Int)
        · refine ask (v := -3) hA hR (same_c hC ?_) (same_r (fun m hm => ?_)) (by decide)
          · rw [fc, hp_lt_t (by omega) (by decide) (by omega), hp_lt_t (by decide) (by omega) q]; rfl
          · rw [fg m hm, r_acts3 hm (by omega), hp_lt_t (by decide) (by omega) q, hp_b]; rfl
        · have hos : Os (s_vs S ++ [(2, i, j, 0, 0)]) := os_snoc.mpr ⟨hA.1.1, by omega, Or.inr (Or.inr (Or.inl ⟨rfl, hi, hj, by show (bag (s_vs S) i).length + (bag (s_vs S) j).length ≤ 24; omega⟩))⟩
          refine act_both (x1 := 2) (x2 := (i : Int)) (x3 := (j : Int)) (x4 := 0) (x5 := 0) hA hC hR (li_ne hA hj) hos ⟨rfl, rfl, rfl⟩ (fun e => by cases e) ?_ (fun m hm => ?_)
          · rw [fc, hp_lt_t (by omega) (by decide) (by omega), hp_lt_f (by decide) (by omega) (by omega)]
          · rw [fg m hm, hp_lt_f (by decide) (by omega) (by omega)]
    · refine ask (v := -2) hA hR (same_c hC ?_) (same_r (fun m hm => ?_)) (by decide)
      · unfold f_X10_joins; rw [c_yes hA hC hx c, c_not hA hC hy d]; rfl
      · unfold f_X11_joins_; rw [r_yes hA hm hx c, r_not hA hm hy d]; rfl
  · refine ask (v := -2) hA hR (same_c hC ?_) (same_r (fun m hm => ?_)) (by decide)
    · unfold f_X10_joins; rw [c_not hA hC hx c]; rfl
    · unfold f_X11_joins_; rw [r_not hA hm hx c]; rfl
theorem op_takes (hA : AW S) (hC : CI S r m) (hR : RI S m) {x : Int} (hx : hv_R32 x) : Res (f_X10_takes x) (f_X11_takes_ x) r m := by
  have h30 := hA.1.1.1
  by_cases c : 0 ≤ x ∧ x < ((s_vs S).length : Int)
  · obtain ⟨j, ex, hj⟩ := is_nat c
    subst ex
    have b2 := (bag_ok hA.1 hj).2.1
    have fc : f_X10_takes (j : Int) m = hv_lt ((s_vs S).length : Int) 30 (hv_eq ((bag (s_vs S) j).length : Int) 0 (hv_ret (-3) m) (hv_b (f_X10_grow 3 (j : Int) (-1) 0 0 m) (fun r7 m8 => hv_ret r7 m8))) (hv_ret (-5) m) := by
      unfold f_X10_takes
      rw [c_yes hA hC hx c, ci_vs hC, hp_b, g_size (ci_bag hC hj) (by omega), hp_b]
    have fg : ∀ m, RI S m → f_X11_takes_ (j : Int) m = hv_eq ((bag (s_vs S) j).length : Int) 0 (hv_b (f_X11_acts 3 (j : Int) (-1) 0 0 1 m) (fun r1 m2 => hv_ret r1 m2)) (hv_b (f_X11_acts 3 (j : Int) (-1) 0 0 0 m) (fun r1 m2 => hv_ret r1 m2)) := fun m hm => by
      unfold f_X11_takes_ J_X11_takes__32
      rw [r_yes hA hm hx c, hp_ald (by omega) (by omega), show ((186 : Int) + (j : Int)).toNat = 186 + j by omega, r_size hm hj]
    by_cases c30 : (s_vs S).length = 30
    · refine ask (v := -5) hA hR (same_c hC ?_) (same_r (fun m hm => ?_)) (by decide)
      · rw [fc, hp_lt_f (by omega) (by decide) (by omega)]; rfl
      · rw [fg m hm, r_acts5 hm c30, r_acts5 hm c30]
        by_cases q : (bag (s_vs S) j).length = 0
        · rw [hp_eq_t (by omega) (by decide) (by omega), hp_b]; rfl
        · rw [hp_eq_f (by omega) (by decide) (by omega), hp_b]; rfl
    · by_cases q : (bag (s_vs S) j).length = 0
      · refine ask (v := -3) hA hR (same_c hC ?_) (same_r (fun m hm => ?_)) (by decide)
        · rw [fc, hp_lt_t (by omega) (by decide) (by omega), hp_eq_t (by omega) (by decide) (by omega)]; rfl
        · rw [fg m hm, r_acts3 hm (by omega), hp_eq_t (by omega) (by decide) (by omega), hp_b]; rfl
      · have hos : Os (s_vs S ++ [(3, j, 0, 0, 0)]) := os_snoc.mpr ⟨hA.1.1, by omega, Or.inr (Or.inr (Or.inr ⟨rfl, hj, by show 1 ≤ (bag (s_vs S) j).length; omega⟩))⟩
        refine act_both (x1 := 3) (x2 := (j : Int)) (x3 := -1) (x4 := 0) (x5 := 0) hA hC hR (li_ne hA hj) hos ⟨rfl, rfl, rfl⟩ (fun e => by cases e) ?_ (fun m hm => ?_)
        · rw [fc, hp_lt_t (by omega) (by decide) (by omega), hp_eq_f (by omega) (by decide) (by omega)]
        · rw [fg m hm, hp_eq_f (by omega) (by decide) (by omega)]
  · refine ask (v := -2) hA hR (same_c hC ?_) (same_r (fun m hm => ?_)) (by decide)
    · unfold f_X10_takes; rw [c_not hA hC hx c]; rfl
    · unfold f_X11_takes_; rw [r_not hA hm hx c]; rfl
end
