/-! the reference's reading -/
theorem r_isWordL {bs p rest : List Nat} {w : Nat} {m : hMem} (hw : w < 8) (h : TpR bs m) (h6 : bs.length ≤ 600) (hb : ∀ x ∈ bs, x < 256) (h7 : m 65 7 = (p.length : Int)) : ∀ (v v' u u' : List Nat) (n : Nat), v.length = v'.length → u.length = u'.length → v.length < n → bs = p ++ (u ++ (v ++ rest)) → wd w = u' ++ v' → L_X11_isWord_28 w n (u.length : Int) m = some (if v = v' then 1 else 0, m)
  | _, _, _, _, 0, _, _, hn, _, _ => by omega
  | [], v', u, u', n + 1, hv, hu, hn, e, ew => by
    have v0 : v' = [] := List.length_eq_zero_iff.mp (by simpa using hv.symm)
    subst v0
    have h5 := (wd_len w hw).1
    have el := congrArg List.length ew
    rw [List.append_nil] at el
    show B_X11_isWord_28 w (L_X11_isWord_28 w n) (u.length : Int) m = _
    unfold B_X11_isWord_28
    rw [w_length hw, hp_b, hp_lt_f (by omega) (by omega) (by omega), if_pos rfl, hp_zr1]
  | x :: v, [], u, u', n + 1, hv, hu, hn, e, ew => by simp at hv
  | x :: v, y :: v', u, u', n + 1, hv, hu, hn, e, ew => by
    simp only [List.length_cons] at hv hn
    have h5 := (wd_len w hw).1
    have el := congrArg List.length ew
    rw [List.length_append, List.length_cons] at el
    have e' : bs = (p ++ u) ++ x :: (v ++ rest) := by rw [e]; simp
    have hl := congrArg List.length e'
    rw [List.length_append, List.length_append, List.length_cons] at hl
    have hx := hb x (by rw [e']; simp)
    have ex : m 68 (p.length + u.length) = (x : Int) := by
      rw [h.2 _ (by omega), show p.length + u.length = (p ++ u).length by simp, e', getD_mid]
    have cw := w_charAt (i := u.length) hw (by omega) m
    have ey : (wd w).getD u.length 0 = y := by rw [ew, hu, getD_mid]
    rw [ey] at cw
    have hy : y ≤ 122 := by
      have := (wd_ch w hw u.length (by omega) (by omega)).2.2
      rw [ey] at this
      exact this
    show B_X11_isWord_28 w (L_X11_isWord_28 w n) (u.length : Int) m = _
    unfold B_X11_isWord_28
    rw [w_length hw, hp_b, hp_lt_t (by omega) (by omega) (by omega), h7, hp_ald (by omega) (by omega), show ((p.length : Int) + (u.length : Int)).toNat = p.length + u.length by omega, ex, cw, hp_b]
    by_cases c : x = y
    · rw [hp_eq_t (by omega) (by omega) (by omega), hp_set]
      have g := r_isWordL (p := p) (rest := rest) hw h h6 hb h7 v v' (u ++ [x]) (u' ++ [y]) n (by omega) (by simp [hu]) (by omega) (by rw [e]; simp) (by rw [ew]; simp)
      rw [List.length_append, List.length_singleton] at g
      rw [show (if x :: v = y :: v' then (1 : Int) else 0) = if v = v' then 1 else 0 by simp [c]]
      exact g
    · rw [hp_eq_f (by omega) (by omega) (by omega), if_neg (by simp [c]), hp_zr0]
theorem r_isWord {bs q : List Nat} {m : hMem} (h6 : bs.length ≤ 600) (hb : ∀ x ∈ bs, x < 256) (h : TR bs q m) {w : Nat} (hw : w < 8) : f_X11_isWord w m = some (if isw w q then 1 else 0, m) := by
  obtain ⟨h1, ⟨p, e⟩, h2, h3, h4, h5⟩ := h
  have kl := kd_le q
  have el := congrArg List.length e
  rw [List.length_append] at el
  have wl := (wd_len w hw).1
  have h3 : m 65 7 = (p.length : Int) := by rw [h3, pl]; omega
  unfold f_X11_isWord
  rw [h2]
  by_cases c : kd q = 1
  · have er := rs1 c
    have erl := congrArg List.length er
    rw [List.length_append] at erl
    rw [hp_eq_t (by omega) (by decide) (by omega), w_length hw, hp_b, h3, h4]
    by_cases c2 : (q.takeWhile bLe).length = (wd w).length
    · rw [hp_eq_t (by omega) (by omega) (by omega)]
      have g := r_isWordL (p := p) (rest := rs q) hw h1 h6 hb h3 (q.takeWhile bLe) (wd w) [] [] hv_FU c2 rfl (fu_lt (by omega)) (by rw [List.nil_append, ← er]; exact e) rfl
      refine Eq.trans g ?_
      unfold isw
      by_cases c3 : q.takeWhile bLe = wd w
      · rw [if_pos c3, if_pos (by simp [c, c3])]
      · rw [if_neg c3, if_neg (by simp [c, c3])]
    · rw [hp_eq_f (by omega) (by omega) (by omega)]
      unfold isw
      rw [if_neg (by simp [c]; intro z; exact c2 (congrArg List.length z)), hp_zr0]
  · rw [hp_eq_f (by omega) (by decide) (by omega)]
    unfold isw
    rw [if_neg (by simp [c]), hp_zr0]
/-- reading, no fault so far; a fault -/
def Rg (bs q : List Nat) (m : hMem) : Prop := bs.length ≤ 600 ∧ (∀ x ∈ bs, x < 256) ∧ TR bs q m ∧ m 65 10 = 0
def Rb (bs q : List Nat) (f : Int × Int) (m : hMem) : Prop := bs.length ≤ 600 ∧ (∀ x ∈ bs, x < 256) ∧ TR bs q m ∧ m 65 10 = 1 ∧ m 65 4 = f.1 ∧ m 65 5 = f.2
def J10 (j : Nat) : Prop := 4 ≤ j ∧ j ≤ 10
theorem TR.f65 {bs q : List Nat} {m m' : hMem} (h : TR bs q m) (hF : F65 (fun j => j = 4 ∨ j = 5 ∨ j = 10) m m') : TR bs q m' := by
  obtain ⟨h1, h2, h3, h4, h5, h6⟩ := h
  exact ⟨h1.f65 hF (by omega), h2, by rw [hF.2 8 (by omega)]; exact h3, by rw [hF.2 7 (by omega)]; exact h4, by rw [hF.2 6 (by omega)]; exact h5, by rw [hF.2 9 (by omega)]; exact h6⟩
theorem TR.eq {bs q : List Nat} {m m' : hMem} (h : TR bs q m) (e5 : m' 65 = m 65) (e8 : m' 68 = m 68) : TR bs q m' := by
  obtain ⟨h1, h2, h3, h4, h5, h6⟩ := h
  exact ⟨⟨by rw [e5]; exact h1.1, fun i hi => by rw [e8]; exact h1.2 i hi⟩, h2, by rw [e5]; exact h3, by rw [e5]; exact h4, by rw [e5]; exact h5, by rw [e5]; exact h6⟩
theorem Rg.eq {bs q : List Nat} {m m' : hMem} (h : Rg bs q m) (e5 : m' 65 = m 65) (e8 : m' 68 = m 68) : Rg bs q m' := ⟨h.1, h.2.1, h.2.2.1.eq e5 e8, by rw [e5]; exact h.2.2.2⟩
theorem Rb.eq {bs q : List Nat} {f : Int × Int} {m m' : hMem} (h : Rb bs q f m) (e5 : m' 65 = m 65) (e8 : m' 68 = m 68) : Rb bs q f m' := ⟨h.1, h.2.1, h.2.2.1.eq e5 e8, by rw [e5]; exact h.2.2.2.1, by rw [e5]; exact h.2.2.2.2.1, by rw [e5]; exact h.2.2.2.2.2⟩
theorem r_faults {bs q : List Nat} {m : hMem} (h : Rg bs q m) (k : Int) : ∃ m', f_X11_faults k m = some (0, m') ∧ Rb bs q (k, pl bs q) m' ∧ F65 J10 m m' := by
  obtain ⟨h1, h2, h3, h4⟩ := h
  have F : F65 (fun j => j = 4 ∨ j = 5 ∨ j = 10) m (hv_up (hv_up (hv_up m 65 10 1) 65 4 k) 65 5 (pl bs q)) := (((F65.refl _ _).up (Or.inr (Or.inr rfl))).up (Or.inl rfl)).up (Or.inr (Or.inl rfl))
  unfold f_X11_faults
  rw [h4, hp_eq_t (by decide) (by decide) rfl, hp_put, hp_put, hp_put]
  rw [show hv_up (hv_up m 65 10 1) 65 4 k 65 7 = pl bs q by rw [hp_up_j _ _ _ (by omega), hp_up_j _ _ _ (by omega)]; exact h3.2.2.2.1]
  refine ⟨_, rfl, ⟨h1, h2, h3.f65 F, ?_, ?_, ?_⟩, F.mono (fun j hj => by unfold J10; omega)⟩
  · rw [hp_up_j _ _ _ (by omega), hp_up_j _ _ _ (by omega), hp_up_same]
  · rw [hp_up_j _ _ _ (by omega), hp_up_same]
  · rw [hp_up_same]
theorem r_faultsB {bs q : List Nat} {f : Int × Int} {m : hMem} (h : Rb bs q f m) (k : Int) : f_X11_faults k m = some (0, m) := by
  unfold f_X11_faults
  rw [h.2.2.2.1, hp_eq_f (by decide) (by decide) (by decide)]
  rfl
theorem r_pass1 {bs q : List Nat} {m : hMem} (h : Rg bs q m) : ∃ m', f_X11_passes 1 m = some (0, m') ∧ Rg bs (nx q) m' ∧ F65 J10 m m' := by
  obtain ⟨h1, h2, h3, h4⟩ := h
  obtain ⟨m', g1, g2, g3⟩ := r_next h1 h2 h3
  refine ⟨m', ?_, ⟨h1, h2, g2, by rw [g3.2 10 (by unfold Jt4; omega)]; exact h4⟩, g3.mono (fun j hj => by unfold Jt4 at hj; unfold J10; omega)⟩
  unfold f_X11_passes J_X11_passes_9
  rw [hp_eq_f (by decide) (by decide) (by decide), h4, hp_eq_t (by decide) (by decide) rfl, g1, hp_b]
  rfl
theorem r_pass0 {bs q : List Nat} {m : hMem} (h : Rg bs q m) : ∃ m', f_X11_passes 0 m = some (0, m') ∧ Rb bs q (1, pl bs q) m' ∧ F65 J10 m m' := by
  obtain ⟨m', g1, g2, g3⟩ := r_faults h 1
  refine ⟨m', ?_, g2, g3⟩
  unfold f_X11_passes J_X11_passes_9
  rw [hp_eq_t (by decide) (by decide) rfl, g1, hp_b, g2.2.2.2.1, hp_eq_f (by decide) (by decide) (by decide)]
  rfl
theorem r_passB {bs q : List Nat} {f : Int × Int} {m : hMem} (h : Rb bs q f m) {x : Int} (hx : hv_R32 x) : f_X11_passes x m = some (0, m) := by
  have hJ : J_X11_passes_9 m = some (0, m) := by
    unfold J_X11_passes_9
    rw [h.2.2.2.1, hp_eq_f (by decide) (by decide) (by decide)]
    rfl
  unfold f_X11_passes
  rw [r_faultsB h, hp_b, hJ]
  by_cases c : x = 0
  · rw [hp_eq_t hx (by decide) c]
  · rw [hp_eq_f hx (by decide) (by omega)]
theorem rv_r (q : List Nat) : 0 ≤ rv q ∧ rv q ≤ 99999 := by unfold rv; split <;> omega
theorem r_readsB {bs q : List Nat} {f : Int × Int} {m : hMem} (h : Rb bs q f m) {lo hi : Int} (hlo : hv_R32 lo) (hhi : hv_R32 hi) : f_X11_reads lo hi m = some (rv q, m) := by
  have kl := kd_le q
  have r := rv_r q
  have hJ : J_X11_reads_38 (rv q) m = some (rv q, m) := by
    unfold J_X11_reads_38
    rw [r_passB h (by decide), hp_b]
    rfl
  unfold f_X11_reads
  rw [hp_set, h.2.2.1.2.2.1, h.2.2.1.2.2.2.2.2]
  by_cases c : kd q = 2
  · rw [hp_eq_t (by omega) (by decide) (by omega), hp_rg (by omega), hp_rg hlo, hp_rg hhi, fe_in (by omega) hlo hhi, hp_b]
    by_cases c2 : lo ≤ rv q ∧ rv q ≤ hi
    · rw [if_pos c2, hp_eq_f (by decide) (by decide) (by decide), hJ]
    · rw [if_neg c2, hp_eq_t (by decide) (by decide) rfl, r_faultsB h, hp_b, hJ]
  · rw [hp_eq_f (by omega) (by decide) (by omega), r_faultsB h, hp_b, hJ]
theorem r_reads {bs q : List Nat} {m : hMem} (h : Rg bs q m) {lo hi : Nat} (hh : hi ≤ 1000) (hlo : lo ≤ 1000) :
    (∀ v, e_num bs q lo hi = .ok v → ∃ m', f_X11_reads (lo : Int) ((hi : Int) - 1) m = some ((v : Int), m') ∧ Rg bs (nx q) m' ∧ F65 J10 m m') ∧
    (∀ e, e_num bs q lo hi = .error e → ∃ m', f_X11_reads (lo : Int) ((hi : Int) - 1) m = some (rv q, m') ∧ Rb bs q e m' ∧ F65 J10 m m') := by
  have kl := kd_le q
  have r := rv_r q
  have e8 := h.2.2.1.2.2.1
  have e9 := h.2.2.1.2.2.2.2.2
  refine ⟨fun v hv => ?_, fun e he => ?_⟩
  · obtain ⟨a1, a2, a3, a4⟩ := num_ok hv
    have ev : rv q = (v : Int) := by unfold rv; rw [if_pos a1]; omega
    obtain ⟨m', g1, g2, g3⟩ := r_pass1 h
    refine ⟨m', ?_, g2, g3⟩
    unfold f_X11_reads J_X11_reads_38
    rw [hp_set, e8, e9, ev, hp_eq_t (by omega) (by decide) (by omega), hp_rg (by omega), hp_rg (by omega), hp_rg (by omega), fe_in (by omega) (by omega) (by omega), hp_b, if_pos ⟨by omega, by omega⟩, hp_eq_f (by decide) (by decide) (by decide), g1, hp_b]
    rfl
  · unfold e_num at he
    split at he
    · rename_i c
      split at he
      · cases he
      · rename_i c2
        injection he with he
        have ev : rv q = ((min (vl q) 99999 : Nat) : Int) := by unfold rv; rw [if_pos c]
        obtain ⟨m', g1, g2, g3⟩ := r_faults h 2
        refine ⟨m', ?_, by rw [← he]; exact g2, g3⟩
        unfold f_X11_reads J_X11_reads_38
        rw [hp_set, e8, e9, hp_eq_t (by omega) (by decide) (by omega), hp_rg (by omega), hp_rg (by omega), hp_rg (by omega), fe_in (by omega) (by omega) (by omega), hp_b, if_neg (by omega), hp_eq_t (by decide) (by decide) rfl, g1, hp_b, r_passB g2 (by decide), hp_b]
        rfl
    · rename_i c
      injection he with he
      obtain ⟨m', g1, g2, g3⟩ := r_faults h 1
      refine ⟨m', ?_, by rw [← he]; exact g2, g3⟩
      unfold f_X11_reads J_X11_reads_38
      rw [hp_set, e8, e9, hp_eq_f (by omega) (by decide) (by omega), g1, hp_b, r_passB g2 (by decide), hp_b]
      rfl
