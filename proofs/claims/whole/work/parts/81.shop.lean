/-! jobs done by hands: what is to be answered, and the class -/
def bsL (fr : Nat → Nat) : Nat → Nat → Nat → Nat
  | 0, b, _ => b
  | d + 1, b, h => bsL fr d (if fr h < fr b then h else b) (h + 1)
def u_fr (fr : Nat → Nat) (b e : Nat) : Nat → Nat := fun h => if h = b then e else fr h
def w_b (fr : Nat → Nat) (hands : Nat) : Nat := bsL fr (hands - 1) 0 1
/-- of each job its hand, and when it is done -/
def wkL (tm : Nat → Nat) (hands : Nat) : List Nat → (Nat → Nat) → List (Nat × Nat)
  | [], _ => []
  | t :: l, fr => (w_b fr hands, fr (w_b fr hands) + tm t) :: wkL tm hands l (u_fr fr (w_b fr hands) (fr (w_b fr hands) + tm t))
def st4 : (Nat × Nat × Nat × Nat) → List Nat → List (Nat × Nat) → (Nat × Nat × Nat × Nat)
  | q, t :: l, w :: ws => st4 (max q.1 w.2, (if t / 30 < w.2 then q.2.1 + 1 else q.2.1), q.2.2.1 + (w.2 - t / 30), max q.2.2.2 (w.2 - t / 30)) l ws
  | q, _, _ => q
theorem bs_lt (fr : Nat → Nat) : ∀ (d b h H : Nat), b < H → h + d ≤ H → bsL fr d b h < H
  | 0, _, _, _, hb, _ => hb
  | d + 1, b, h, H, hb, hh => by
    show bsL fr d (if fr h < fr b then h else b) (h + 1) < H
    refine bs_lt fr d _ _ H ?_ (by omega)
    split <;> omega
theorem wb_lt (fr : Nat → Nat) {hands : Nat} (h : 1 ≤ hands) : w_b fr hands < hands := bs_lt fr _ _ _ _ (by omega) (by omega)
theorem wk_len (tm : Nat → Nat) (hands : Nat) : ∀ (l : List Nat) (fr : Nat → Nat), (wkL tm hands l fr).length = l.length
  | [], _ => rfl
  | t :: l, fr => by
    show (_ :: wkL tm hands l _).length = _
    rw [List.length_cons, wk_len tm hands l]; rfl
theorem wk_le {tm : Nat → Nat} {hands : Nat} (htm : ∀ t, tm t ≤ 99) : ∀ (l : List Nat) (fr : Nat → Nat) (M : Nat), (∀ h, fr h ≤ M) → ∀ w ∈ wkL tm hands l fr, w.2 ≤ M + 99 * l.length
  | [], _, _, _, w, hw => by simp [wkL] at hw
  | t :: l, fr, M, hM, w, hw => by
    have h0 := hM (w_b fr hands)
    have h9 := htm t
    rw [List.length_cons]
    rcases List.mem_cons.mp hw with e | e
    · rw [e]
      show fr (w_b fr hands) + tm t ≤ _
      omega
    · have := wk_le htm l (u_fr fr (w_b fr hands) (fr (w_b fr hands) + tm t)) (M + 99) (fun h => by
        unfold u_fr
        have := hM h
        split <;> omega) w e
      omega
theorem st4_le {N : Nat} : ∀ (l : List Nat) (ws : List (Nat × Nat)) (q : Nat × Nat × Nat × Nat), (∀ w ∈ ws, w.2 ≤ N) → q.1 ≤ N → q.2.2.2 ≤ N → (st4 q l ws).1 ≤ N ∧ (st4 q l ws).2.1 ≤ q.2.1 + l.length ∧ (st4 q l ws).2.2.1 ≤ q.2.2.1 + N * l.length ∧ (st4 q l ws).2.2.2 ≤ N
  | [], ws, q, _, h1, h2 => by
    have e : st4 q [] ws = q := by cases ws <;> rfl
    rw [e]; exact ⟨h1, by omega, by omega, h2⟩
  | t :: l, [], q, _, h1, h2 => by
    have e : st4 q (t :: l) [] = q := rfl
    rw [e]
    exact ⟨h1, by omega, Nat.le_add_right _ _, h2⟩
  | t :: l, w :: ws, q, hw, h1, h2 => by
    have hw0 := hw w (by simp)
    have g := st4_le (N := N) l ws (max q.1 w.2, (if t / 30 < w.2 then q.2.1 + 1 else q.2.1), q.2.2.1 + (w.2 - t / 30), max q.2.2.2 (w.2 - t / 30)) (fun v hv => hw v (by simp [hv])) (by show max q.1 w.2 ≤ N; omega) (by show max q.2.2.2 (w.2 - t / 30) ≤ N; omega)
    obtain ⟨g1, g2, g3, g4⟩ := g
    have g2 : _ ≤ (if t / 30 < w.2 then q.2.1 + 1 else q.2.1) + l.length := g2
    have g3 : _ ≤ q.2.2.1 + (w.2 - t / 30) + N * l.length := g3
    have e : st4 q (t :: l) (w :: ws) = st4 (max q.1 w.2, (if t / 30 < w.2 then q.2.1 + 1 else q.2.1), q.2.2.1 + (w.2 - t / 30), max q.2.2.2 (w.2 - t / 30)) l ws := rfl
    rw [e, List.length_cons, Nat.mul_succ]
    have hif : (if t / 30 < w.2 then q.2.1 + 1 else q.2.1) ≤ q.2.1 + 1 := by split <;> omega
    exact ⟨g1, by omega, by omega, g4⟩
/-- a job's time -/
def tmv (vs : List hVr) (t : Nat) : Nat := min 99 ((jl vs).getD (t % 30) (0, 0)).2
theorem tm_99 (vs : List hVr) (t : Nat) : tmv vs t ≤ 99 := by unfold tmv; omega
theorem tm_jt {vs : List hVr} {t : Nat} (h : Jt vs t) : (jl vs)[t % 30]? = some (t / 30, tmv vs t) := by
  obtain ⟨h1, c, h2, h3, h4, h5⟩ := h
  have e : tmv vs t = c := by
    unfold tmv
    rw [List.getD_eq_getElem?_getD, h2]
    show min 99 c = c
    omega
  rw [e]; exact h2
/-- the shop's state -/
def Shs (fr : Nat → Nat) (q : Nat × Nat × Nat × Nat) (m : hMem) : Prop := (∀ h, h < 8 → m 62 h = (fr h : Int)) ∧ m 61 5 = (q.1 : Int) ∧ m 61 6 = (q.2.1 : Int) ∧ m 61 7 = (q.2.2.1 : Int) ∧ m 61 8 = (q.2.2.2 : Int)
theorem c_ffL {fr : Nat → Nat} {H : Nat} {m : hMem} (hf : ∀ h, h < 8 → m 62 h = (fr h : Int)) (hM : ∀ h, fr h ≤ 100000) (H8 : H ≤ 8) : ∀ (d n b h : Nat), h + d = H → d < n → b < H → L_X5_freeFirst_4 n (H : Int) (b : Int) (h : Int) m = some ((bsL fr d b h : Int), m)
  | _, 0, _, _, _, hn, _ => by omega
  | 0, n + 1, b, h, hh, hn, hb => by
    show B_X5_freeFirst_4 (L_X5_freeFirst_4 n) (H : Int) (b : Int) (h : Int) m = _
    unfold B_X5_freeFirst_4
    rw [hp_lt_f (by omega) (by omega) (by omega)]
    rfl
  | d + 1, n + 1, b, h, hh, hn, hb => by
    have f1 := hM h
    have f2 := hM b
    show B_X5_freeFirst_4 (L_X5_freeFirst_4 n) (H : Int) (b : Int) (h : Int) m = _
    unfold B_X5_freeFirst_4
    rw [hp_lt_t (by omega) (by omega) (by omega), fe_at' (by omega) (by omega) (by omega), hp_b, Int.toNat_natCast, fe_at' (by omega) (by omega) (by omega), hp_b, Int.toNat_natCast, hf h (by omega), hf b (by omega)]
    show _ = some ((bsL fr d (if fr h < fr b then h else b) (h + 1) : Int), m)
    by_cases c : fr h < fr b
    · rw [hp_lt_t (by omega) (by omega) (by omega), hp_set, if_pos c]
      exact c_ffL hf hM H8 d n h (h + 1) (by omega) (by omega) (by omega)
    · rw [hp_lt_f (by omega) (by omega) (by omega), hp_set, if_neg c]
      exact c_ffL hf hM H8 d n b (h + 1) (by omega) (by omega) hb
def q_st (q : Nat × Nat × Nat × Nat) (t e : Nat) : Nat × Nat × Nat × Nat := (max q.1 e, (if t / 30 < e then q.2.1 + 1 else q.2.1), q.2.2.1 + (e - t / 30), max q.2.2.2 (e - t / 30))
theorem c_workOn {vs : List hVr} {fr : Nat → Nat} {q : Nat × Nat × Nat × Nat} {m : hMem} {t i H : Nat} (hJ : JR vs m) (ho : Os vs) (ht : Jt vs t) (hs : Shs fr q m) (hM : ∀ h, fr h ≤ 90000) (h1 : q.1 ≤ 90000) (h2 : q.2.2.2 ≤ 90000) (hi : i < 24) (H1 : 1 ≤ H) (H8 : H ≤ 8) :
    ∃ m', f_X5_workOn ((t % 30 : Nat) : Int) (i : Int) (H : Int) m = some (0, m') ∧ Shs (u_fr fr (w_b fr H) (fr (w_b fr H) + tmv vs t)) (q_st q t (fr (w_b fr H) + tmv vs t)) m' ∧ m' 63 i = (w_b fr H : Int) ∧ m' 64 i = ((fr (w_b fr H) + tmv vs t : Nat) : Int) ∧ (∀ j, j ≠ i → m' 63 j = m 63 j ∧ m' 64 j = m 64 j) ∧ m' 61 4 = m 61 4 ∧ Fr 61 65 m m' := by
  obtain ⟨s1, s2, s3, s4, s5⟩ := hs
  have hj := tm_jt ht
  have t99 := tm_99 vs t
  have hk := ht.2.choose_spec.2.1
  obtain ⟨b, hb⟩ : ∃ b, b = w_b fr H := ⟨_, rfl⟩
  have bl : b < H := by rw [hb]; exact wb_lt fr H1
  have ff : f_X5_freeFirst (H : Int) m = some ((b : Int), m) := by
    unfold f_X5_freeFirst
    rw [hb]
    exact c_ffL s1 (fun h => Nat.le_trans (hM h) (by omega)) H8 (H - 1) hv_FU 0 1 (by omega) (fu_lt (by omega)) (by omega)
  rw [← hb]
  obtain ⟨e, he⟩ : ∃ e, e = fr b + tmv vs t := ⟨_, rfl⟩
  have fb := hM b
  rw [← he]
  obtain ⟨m3, em3⟩ : ∃ m3 : hMem, m3 = hv_up (hv_up (hv_up m 62 b (e : Int)) 63 i (b : Int)) 64 i (e : Int) := ⟨_, rfl⟩
  obtain ⟨m4, em4⟩ : ∃ m4 : hMem, m4 = hv_up m3 61 5 ((max q.1 e : Nat) : Int) := ⟨_, rfl⟩
  have F3 : Fr 61 65 m m3 := by rw [em3]; exact (((Fr.refl _ _ _).up (by omega)).up (by omega)).up (by omega)
  have F4 : Fr 61 65 m m4 := by rw [em4]; exact F3.up (by omega)
  have e61 : ∀ j, m3 61 j = m 61 j := fun j => by rw [em3, hp_up_k _ _ _ _ (by omega), hp_up_k _ _ _ _ (by omega), hp_up_k _ _ _ _ (by omega)]
  have J4 : JR vs m4 := hJ.eq (F4 11 (by omega)) (F4 12 (by omega)) (F4 13 (by omega))
  have time : f_X3_timeOf ((t % 30 : Nat) : Int) m = some ((tmv vs t : Int), m) := (j_turn hJ ho hj).2.2
  have key : f_X3_keyOf ((t % 30 : Nat) : Int) m4 = some (((t / 30 : Nat) : Int), m4) := (j_turn J4 ho hj).2.1
  have run : f_X5_workOn ((t % 30 : Nat) : Int) (i : Int) (H : Int) m = hv_lt 0 ((e : Int) - ((t / 30 : Nat) : Int)) (hv_put m4 61 6 ((m4 61 6) + 1) (fun m20 => hv_put m20 61 7 ((m20 61 7) + ((e : Int) - ((t / 30 : Nat) : Int))) (fun m21 => hv_b (f_J9_max_7cf53 (m21 61 8) ((e : Int) - ((t / 30 : Nat) : Int)) m21) (fun r22 m23 => hv_put m23 61 8 r22 (fun m24 => hv_ret 0 m24))))) (hv_ret 0 m4) := by
    unfold f_X5_workOn
    rw [ff, hp_b, fe_at' (by omega) (by omega) (by omega), hp_b, Int.toNat_natCast, s1 b (by omega), time, hp_b, hp_set, show (fr b : Int) + (tmv vs t : Int) = (e : Int) by omega, fe_set (by omega) (by omega) (by omega), hp_b, Int.toNat_natCast, fe_set (by omega) (by omega) (by omega), hp_b, Int.toNat_natCast, fe_set (by omega) (by omega) (by omega), hp_b, Int.toNat_natCast, ← em3, e61 5, s2, fe_max (by omega) (by omega), hp_b, hp_put, show max (q.1 : Int) (e : Int) = ((max q.1 e : Nat) : Int) by omega, ← em4, key, hp_b, hp_set]
  have e4 : m4 61 5 = ((max q.1 e : Nat) : Int) := by rw [em4, hp_up_same]
  have o4 : ∀ j, j ≠ 5 → m4 61 j = m 61 j := fun j hj => by rw [em4, hp_up_j _ _ _ hj, e61 j]
  have k4 : ∀ k, k ≠ 61 → m4 k = m3 k := fun k hk => by rw [em4, hp_up_kk _ _ _ hk]
  have fin : ∀ m' : hMem, (∀ k, k ≠ 61 → m' k = m4 k) → (m' 61 4 = m4 61 4) → (m' 61 5 = m4 61 5) → m' 61 6 = ((q_st q t e).2.1 : Int) → m' 61 7 = ((q_st q t e).2.2.1 : Int) → m' 61 8 = ((q_st q t e).2.2.2 : Int) → Shs (u_fr fr b e) (q_st q t e) m' ∧ m' 63 i = (b : Int) ∧ m' 64 i = (e : Int) ∧ (∀ j, j ≠ i → m' 63 j = m 63 j ∧ m' 64 j = m 64 j) ∧ m' 61 4 = m 61 4 ∧ Fr 61 65 m m' := by
    intro m' z0 z4 z5 z6 z7 z8
    refine ⟨⟨fun h hh => ?_, by rw [z5, e4]; rfl, z6, z7, z8⟩, ?_, ?_, fun j hj => ?_, by rw [z4, o4 4 (by omega)], fun k hk => by rw [z0 k (by omega)]; exact F4 k hk⟩
    · rw [z0 62 (by omega), k4 62 (by omega), em3, hp_up_k _ _ _ _ (by omega), hp_up_k _ _ _ _ (by omega)]
      unfold u_fr
      by_cases c : h = b
      · rw [c, hp_up_same, if_pos rfl]
      · rw [hp_up_j _ _ _ c, if_neg c]; exact s1 h hh
    · rw [z0 63 (by omega), k4 63 (by omega), em3, hp_up_k _ _ _ _ (by omega), hp_up_same]
    · rw [z0 64 (by omega), k4 64 (by omega), em3, hp_up_same]
    · rw [z0 63 (by omega), k4 63 (by omega), z0 64 (by omega), k4 64 (by omega), em3, hp_up_k _ _ _ _ (by omega), hp_up_j _ _ _ hj, hp_up_k _ _ _ _ (by omega), hp_up_j _ _ _ hj, hp_up_k _ _ _ _ (by omega), hp_up_k _ _ _ _ (by omega)]
      exact ⟨rfl, rfl⟩
  rw [run]
  by_cases c : t / 30 < e
  · rw [hp_lt_t (by decide) (by omega) (by omega), hp_put, hp_put, o4 6 (by omega), s3]
    rw [show hv_up m4 61 6 ((q.2.1 : Int) + 1) 61 7 = (q.2.2.1 : Int) by rw [hp_up_j _ _ _ (by omega), o4 7 (by omega)]; exact s4]
    rw [show hv_up (hv_up m4 61 6 ((q.2.1 : Int) + 1)) 61 7 ((q.2.2.1 : Int) + ((e : Int) - ((t / 30 : Nat) : Int))) 61 8 = (q.2.2.2 : Int) by rw [hp_up_j _ _ _ (by omega), hp_up_j _ _ _ (by omega), o4 8 (by omega)]; exact s5]
    rw [fe_max (by omega) (by omega), hp_b, hp_put]
    obtain ⟨m', em'⟩ : ∃ m' : hMem, m' = hv_up (hv_up (hv_up m4 61 6 ((q.2.1 : Int) + 1)) 61 7 ((q.2.2.1 : Int) + ((e : Int) - ((t / 30 : Nat) : Int)))) 61 8 (max (q.2.2.2 : Int) ((e : Int) - ((t / 30 : Nat) : Int))) := ⟨_, rfl⟩
    rw [← em']
    refine ⟨m', rfl, fin m' (fun k hk => by rw [em', hp_up_kk _ _ _ hk, hp_up_kk _ _ _ hk, hp_up_kk _ _ _ hk]) (by rw [em', hp_up_j _ _ _ (by omega), hp_up_j _ _ _ (by omega), hp_up_j _ _ _ (by omega)]) (by rw [em', hp_up_j _ _ _ (by omega), hp_up_j _ _ _ (by omega), hp_up_j _ _ _ (by omega)]) ?_ ?_ ?_⟩
    · rw [em', hp_up_j _ _ _ (by omega), hp_up_j _ _ _ (by omega), hp_up_same]
      show _ = (((if t / 30 < e then q.2.1 + 1 else q.2.1 : Nat)) : Int)
      rw [if_pos c]; omega
    · rw [em', hp_up_j _ _ _ (by omega), hp_up_same]
      show _ = ((q.2.2.1 + (e - t / 30) : Nat) : Int)
      omega
    · rw [em', hp_up_same]
      show _ = ((max q.2.2.2 (e - t / 30) : Nat) : Int)
      omega
  · rw [hp_lt_f (by decide) (by omega) (by omega)]
    refine ⟨m4, rfl, fin m4 (fun _ _ => rfl) rfl rfl ?_ ?_ ?_⟩
    · rw [o4 6 (by omega), s3]
      show _ = (((if t / 30 < e then q.2.1 + 1 else q.2.1 : Nat)) : Int)
      rw [if_neg c]
    · rw [o4 7 (by omega), s4]
      show _ = ((q.2.2.1 + (e - t / 30) : Nat) : Int)
      omega
    · rw [o4 8 (by omega), s5]
      show _ = ((max q.2.2.2 (e - t / 30) : Nat) : Int)
      omega
theorem c_workL {vs : List hVr} {j H : Nat} (ho : Os vs) (hj30 : j < 30) (H1 : 1 ≤ H) (H8 : H ≤ 8) : ∀ (r p : List Nat) (n M : Nat) (fr : Nat → Nat) (q : Nat × Nat × Nat × Nat) (m : hMem), r.length < n → JR vs m → Bg 20 m j (p ++ r) → (∀ t ∈ r, Jt vs t) → m 61 4 = ((p ++ r).length : Int) → Shs fr q m → (∀ h, fr h ≤ M) → q.1 ≤ M → q.2.2.2 ≤ M → M + 99 * r.length ≤ 90000 →
    ∃ m', L_X5_work_58 20 n (j : Int) (H : Int) (p.length : Int) m = some (0, m') ∧ (∃ fr', Shs fr' (st4 q r (wkL (tmv vs) H r fr)) m') ∧ (∀ i, i < r.length → m' 63 (p.length + i) = (((wkL (tmv vs) H r fr).getD i (0, 0)).1 : Int) ∧ m' 64 (p.length + i) = (((wkL (tmv vs) H r fr).getD i (0, 0)).2 : Int)) ∧ (∀ i, i < p.length → m' 63 i = m 63 i ∧ m' 64 i = m 64 i) ∧ m' 61 4 = m 61 4 ∧ Fr 61 65 m m'
  | _, _, 0, _, _, _, _, hn, _, _, _, _, _, _, _, _, _ => by omega
  | [], p, n + 1, M, fr, q, m, hn, hJ, hB, hr, h4, hs, hM, h1, h2, hMM => by
    have h24 := hB.2.1
    rw [List.append_nil] at h4 h24
    refine ⟨m, ?_, ⟨fr, hs⟩, fun i hi => by simp at hi, fun i _ => ⟨rfl, rfl⟩, rfl, Fr.refl _ _ _⟩
    show B_X5_work_58 20 (L_X5_work_58 20 n) (j : Int) (H : Int) (p.length : Int) m = _
    unfold B_X5_work_58
    rw [h4, hp_lt_f (by omega) (by omega) (by omega)]
    rfl
  | t :: r, p, n + 1, M, fr, q, m, hn, hJ, hB, hr, h4, hs, hM, h1, h2, hMM => by
    have h24 := hB.2.1
    have el : (p ++ t :: r).length = p.length + r.length + 1 := by rw [List.length_append, List.length_cons]; omega
    simp only [List.length_cons] at hn hMM
    have ht := hr t (by simp)
    have t99 := tm_99 vs t
    have ja := g_jobAt hB hj30 (i := (p.length : Int)) (by omega)
    rw [if_pos ⟨by omega, by omega⟩, Int.toNat_natCast, getD_mid] at ja
    obtain ⟨m1, a1, a2, a3, a4, a5, a6, a7⟩ := c_workOn (i := p.length) hJ ho ht hs (fun h => Nat.le_trans (hM h) (by omega)) (by omega) (by omega) (by omega) H1 H8
    have hb := hM (w_b fr H)
    obtain ⟨m', b1, b2, b3, b4, b5, b6⟩ := c_workL ho hj30 H1 H8 r (p ++ [t]) n (M + 99) (u_fr fr (w_b fr H) (fr (w_b fr H) + tmv vs t)) (q_st q t (fr (w_b fr H) + tmv vs t)) m1 (by omega) (hJ.eq (a7 11 (by omega)) (a7 12 (by omega)) (a7 13 (by omega))) (by rw [List.append_assoc]; exact hB.eq (a7 21 (by omega)) (a7 22 (by omega))) (fun u hu => hr u (by simp [hu])) (by rw [List.append_assoc, a6]; exact h4) a2 (fun h => by
      unfold u_fr
      have := hM h
      split <;> omega) (by show max q.1 _ ≤ _; omega) (by show max q.2.2.2 _ ≤ _; omega) (by omega)
    have pl : (p ++ [t]).length = p.length + 1 := by rw [List.length_append]; rfl
    rw [pl] at b1 b3 b4
    refine ⟨m', ?_, b2, fun i hi => ?_, fun i hi => ?_, by rw [b5, a6], a7.trans b6⟩
    · show B_X5_work_58 20 (L_X5_work_58 20 n) (j : Int) (H : Int) (p.length : Int) m = _
      unfold B_X5_work_58
      rw [h4, hp_lt_t (by omega) (by omega) (by omega), ja, hp_b, a1, hp_b, hp_set]
      exact b1
    · rw [List.length_cons] at hi
      cases i with
      | zero =>
        have z := b4 p.length (by omega)
        rw [Nat.add_zero, z.1, z.2, a3, a4]
        exact ⟨rfl, rfl⟩
      | succ i =>
        have z := b3 i (by omega)
        rw [show p.length + (i + 1) = p.length + 1 + i by omega]
        exact z
    · have z := b4 i (by omega)
      have y := a5 i (by omega)
      rw [z.1, z.2]; exact y
theorem c_work32 {j H : Nat} : ∀ (d n h : Nat) (m : hMem), h + d = 8 → d < n → ∃ m', L_X5_work_32 20 n (j : Int) (H : Int) (h : Int) m = L_X5_work_58 20 hv_FU (j : Int) (H : Int) 0 m' ∧ (∀ k, k ≠ 62 → m' k = m k) ∧ (∀ i, h ≤ i → i < 8 → m' 62 i = 0) ∧ ∀ i, i < h → m' 62 i = m 62 i
  | _, 0, _, _, _, hn => by omega
  | 0, n + 1, h, m, hh, hn => by
    refine ⟨m, ?_, fun _ _ => rfl, fun i a b => by omega, fun _ _ => rfl⟩
    show B_X5_work_32 20 (L_X5_work_32 20 n) (j : Int) (H : Int) (h : Int) m = _
    unfold B_X5_work_32
    rw [hp_lt_f (by omega) (by decide) (by omega)]
  | d + 1, n + 1, h, m, hh, hn => by
    obtain ⟨m', a1, a2, a3, a4⟩ := c_work32 (j := j) (H := H) d n (h + 1) (hv_up m 62 h 0) (by omega) (by omega)
    refine ⟨m', ?_, fun k hk => by rw [a2 k hk, hp_up_kk _ _ _ hk], fun i x y => ?_, fun i x => by rw [a4 i (by omega), hp_up_j _ _ _ (by omega)]⟩
    · show B_X5_work_32 20 (L_X5_work_32 20 n) (j : Int) (H : Int) (h : Int) m = _
      unfold B_X5_work_32
      rw [hp_lt_t (by omega) (by decide) (by omega), fe_set (by omega) (by omega) (by omega), hp_b, Int.toNat_natCast, hp_set]
      exact a1
    · by_cases c : i = h
      · rw [c, a4 h (by omega), hp_up_same]
      · exact a3 i (by omega) y
def ws_all (vs : List hVr) (H : Nat) (l : List Nat) : List (Nat × Nat) := wkL (tmv vs) H l (fun _ => 0)
def st_all (vs : List hVr) (H : Nat) (l : List Nat) : Nat × Nat × Nat × Nat := st4 (0, 0, 0, 0) l (ws_all vs H l)
theorem st_le (vs : List hVr) (H : Nat) {l : List Nat} (h24 : l.length ≤ 24) : (st_all vs H l).1 ≤ 90000 ∧ (st_all vs H l).2.1 ≤ 24 ∧ (st_all vs H l).2.2.1 ≤ 90000 ∧ (st_all vs H l).2.2.2 ≤ 90000 := by
  have g := st4_le (N := 99 * 24) l (ws_all vs H l) (0, 0, 0, 0) (fun w hw => by
    have := wk_le (hands := H) (tm_99 vs) l (fun _ => 0) 0 (fun _ => Nat.le_refl _) w hw
    omega) (by show 0 ≤ _; omega) (by show 0 ≤ _; omega)
  obtain ⟨g1, g2, g3, g4⟩ := g
  have g2 : _ ≤ 0 + l.length := g2
  have g3 : _ ≤ 0 + 99 * 24 * l.length := g3
  unfold st_all
  refine ⟨by omega, by omega, by omega, by omega⟩
theorem ws_le (vs : List hVr) (H : Nat) {l : List Nat} (h24 : l.length ≤ 24) (i : Nat) : ((ws_all vs H l).getD i (0, 0)).2 ≤ 90000 := by
  by_cases c : i < (ws_all vs H l).length
  · have hm : (ws_all vs H l).getD i (0, 0) ∈ ws_all vs H l := by
      rw [List.getD_eq_getElem?_getD, List.getElem?_eq_getElem c]
      exact List.getElem_mem _
    have := wk_le (hands := H) (tm_99 vs) l (fun _ => 0) 0 (fun _ => Nat.le_refl _) _ hm
    omega
  · rw [getD_out _ _ (by omega)]; exact Nat.zero_le _
theorem c_work {vs : List hVr} {j H : Nat} {l : List Nat} {m : hMem} (ho : Os vs) (hj30 : j < 30) (H1 : 1 ≤ H) (H8 : H ≤ 8) (hJ : JR vs m) (hB : Bg 20 m j l) (hl : ∀ t ∈ l, Jt vs t) :
    ∃ m', f_X5_work 20 (j : Int) (H : Int) m = some (0, m') ∧ m' 61 4 = (l.length : Int) ∧ m' 61 5 = ((st_all vs H l).1 : Int) ∧ m' 61 6 = ((st_all vs H l).2.1 : Int) ∧ m' 61 7 = ((st_all vs H l).2.2.1 : Int) ∧ m' 61 8 = ((st_all vs H l).2.2.2 : Int) ∧ (∀ i, i < l.length → m' 63 i = (((ws_all vs H l).getD i (0, 0)).1 : Int) ∧ m' 64 i = (((ws_all vs H l).getD i (0, 0)).2 : Int)) ∧ Fr 61 65 m m' := by
  have h24 := hB.2.1
  obtain ⟨m4, em4⟩ : ∃ m4 : hMem, m4 = hv_up (hv_up (hv_up (hv_up m 61 5 0) 61 6 0) 61 7 0) 61 8 0 := ⟨_, rfl⟩
  have F4 : Fr 61 65 m m4 := by rw [em4]; exact ((((Fr.refl _ _ _).up (by omega)).up (by omega)).up (by omega)).up (by omega)
  have B4 : Bg 20 m4 j l := hB.eq (F4 21 (by omega)) (F4 22 (by omega))
  obtain ⟨m7, em7⟩ : ∃ m7 : hMem, m7 = hv_up m4 61 4 (l.length : Int) := ⟨_, rfl⟩
  have F7 : Fr 61 65 m m7 := by rw [em7]; exact F4.up (by omega)
  obtain ⟨m8, a1, a2, a3, -⟩ := c_work32 (j := j) (H := H) 8 hv_FU 0 m7 (by omega) (fu_lt (by omega))
  have F8 : Fr 61 65 m m8 := fun k hk => by rw [a2 k (by omega)]; exact F7 k hk
  have s8 : Shs (fun _ => 0) (0, 0, 0, 0) m8 := by
    refine ⟨fun h hh => a3 h (by omega) hh, ?_, ?_, ?_, ?_⟩
    · rw [a2 61 (by omega), em7, hp_up_j _ _ _ (by omega), em4, hp_up_j _ _ _ (by omega), hp_up_j _ _ _ (by omega), hp_up_j _ _ _ (by omega), hp_up_same]; rfl
    · rw [a2 61 (by omega), em7, hp_up_j _ _ _ (by omega), em4, hp_up_j _ _ _ (by omega), hp_up_j _ _ _ (by omega), hp_up_same]; rfl
    · rw [a2 61 (by omega), em7, hp_up_j _ _ _ (by omega), em4, hp_up_j _ _ _ (by omega), hp_up_same]; rfl
    · rw [a2 61 (by omega), em7, hp_up_j _ _ _ (by omega), em4, hp_up_same]; rfl
  have e4 : m8 61 4 = (l.length : Int) := by rw [a2 61 (by omega), em7, hp_up_same]
  obtain ⟨m', b1, ⟨fr', b2⟩, b3, b4, b5, b6⟩ := c_workL ho hj30 H1 H8 l [] hv_FU 0 (fun _ => 0) (0, 0, 0, 0) m8 (fu_lt (by omega)) (hJ.eq (F8 11 (by omega)) (F8 12 (by omega)) (F8 13 (by omega))) (hB.eq (F8 21 (by omega)) (F8 22 (by omega))) hl e4 s8 (fun _ => Nat.le_refl _) (Nat.le_refl _) (Nat.le_refl _) (by omega)
  obtain ⟨-, c5, c6, c7, c8⟩ := b2
  refine ⟨m', ?_, by rw [b5, e4], c5, c6, c7, c8, fun i hi => ?_, F8.trans b6⟩
  · unfold f_X5_work
    rw [hp_put, hp_put, hp_put, hp_put, ← em4, g_size B4 hj30, hp_b, hp_put, ← em7]
    exact Eq.trans a1 b1
  · have z := b3 i hi
    rw [List.length_nil, Nat.zero_add] at z
    exact z
