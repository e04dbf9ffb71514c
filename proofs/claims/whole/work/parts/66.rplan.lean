/-! the reference reads what the tape says -/
def FM (m m' : hMem) : Prop := (∀ k, k ≠ 65 → k ≠ 66 → m' k = m k) ∧ ∀ j, ¬ J10 j → m' 65 j = m 65 j
theorem FM.refl (m : hMem) : FM m m := ⟨fun _ _ _ => rfl, fun _ _ => rfl⟩
theorem FM.trans {m1 m2 m3 : hMem} (h1 : FM m1 m2) (h2 : FM m2 m3) : FM m1 m3 := ⟨fun k a b => (h2.1 k a b).trans (h1.1 k a b), fun j hj => (h2.2 j hj).trans (h1.2 j hj)⟩
theorem F65.fm {m m' : hMem} (h : F65 J10 m m') : FM m m' := ⟨fun k a _ => h.1 k a, h.2⟩
theorem FM.up {m m1 : hMem} {j : Nat} {v : Int} (h : FM m m1) : FM m (hv_up m1 66 j v) := ⟨fun k a b => by rw [hp_up_kk _ _ _ b]; exact h.1 k a b, fun i hi => by rw [hp_up_k _ _ _ _ (by omega)]; exact h.2 i hi⟩
theorem Rg.up {bs q : List Nat} {m : hMem} (h : Rg bs q m) (j : Nat) (v : Int) : Rg bs q (hv_up m 66 j v) := h.eq (hp_up_kk _ _ _ (by omega)) (hp_up_kk _ _ _ (by omega))
theorem Rb.up {bs q : List Nat} {f : Int × Int} {m : hMem} (h : Rb bs q f m) (j : Nat) (v : Int) : Rb bs q f (hv_up m 66 j v) := h.eq (hp_up_kk _ _ _ (by omega)) (hp_up_kk _ _ _ (by omega))
/-- what a plan's line leaves, ahead of its sign -/
def Rp (bs q : List Nat) (m m' : hMem) : Prop := FM m m' ∧ (∀ j, 2 ≤ j → m' 66 j = m 66 j) ∧ ((∃ f q', e_plan bs q = .error f ∧ Rb bs q' f m') ∨ ∃ l h q', e_plan bs q = e_end bs q' (l, h) ∧ Rg bs q' m' ∧ m' 66 0 = (l : Int) ∧ m' 66 1 = (h : Int) ∧ q'.length < q.length)
theorem r_readsPlan {bs q : List Nat} {m : hMem} (h : Rg bs q m) : ∃ m', f_X11_readsPlan m = some (0, m') ∧ Rp bs q m m' := by
  have two : ∀ (m1 m2 : hMem) (a b : Int), m2 = hv_up (hv_up m1 66 0 a) 66 1 b → (∀ k, k ≠ 65 → m1 k = m k) → ∀ j, 2 ≤ j → m2 66 j = m 66 j := fun m1 m2 a b e he j hj => by
    rw [e, hp_up_j _ _ _ (by omega), hp_up_j _ _ _ (by omega), he 66 (by omega)]
  -- from a fault on
  have bad : ∀ (f : Int × Int) (q' : List Nat) (m1 : hMem), Rb bs q' f m1 → F65 J10 m m1 → e_plan bs q = .error f → (hv_eq (m1 65 10) 0 (hv_b (f_X11_isWord 1 m1) (fun r5 m6 => hv_eq r5 0 (J_X11_readsPlan_32 0 m6) (J_X11_readsPlan_27 m6))) (J_X11_readsPlan_27 m1) = some (0, hv_up (hv_up m1 66 0 (rv q')) 66 1 (rv q'))) ∧ ∀ s1, hv_R32 s1 → J_X11_readsPlan_32 s1 m1 = some (0, hv_up (hv_up m1 66 0 (rv q')) 66 1 (rv q')) := by
    intro f q' m1 hB hF he
    have b32 : ∀ s1, hv_R32 s1 → J_X11_readsPlan_32 s1 m1 = some (0, hv_up (hv_up m1 66 0 (rv q')) 66 1 (rv q')) := fun s1 hs1 => by
      have hB1 := hB.up 0 (rv q')
      unfold J_X11_readsPlan_32
      rw [r_passB hB hs1, hp_b, r_readsB hB (by decide) (by decide), hp_b, hp_ast (by decide) (by decide), show (0 : Int).toNat = 0 from rfl, hB1.2.2.2.1, hp_eq_f (by decide) (by decide) (by decide)]
      unfold J_X11_readsPlan_64 J_X11_readsPlan_69
      rw [r_passB hB1 (by decide), hp_b, r_readsB hB1 (by decide) (by decide), hp_b, hp_ast (by decide) (by decide), show (1 : Int).toNat = 1 from rfl]
      rfl
    refine ⟨?_, b32⟩
    rw [hB.2.2.2.1, hp_eq_f (by decide) (by decide) (by decide)]
    exact b32 1 (by decide)
  have fin : ∀ (f : Int × Int) (q' : List Nat) (m1 : hMem), Rb bs q' f m1 → F65 J10 m m1 → e_plan bs q = .error f → Rp bs q m (hv_up (hv_up m1 66 0 (rv q')) 66 1 (rv q')) := fun f q' m1 hB hF he => ⟨(hF.fm.up).up, two m1 _ _ _ rfl hF.1, Or.inl ⟨f, q', he, (hB.up 0 _).up 1 _⟩⟩
  unfold f_X11_readsPlan
  rw [r_isWord h.1 h.2.1 h.2.2.1 (by omega), hp_b]
  cases c0 : isw 0 q with
  | false =>
    have he : e_plan bs q = .error (1, pl bs q) := by unfold e_plan; rw [if_pos c0]
    obtain ⟨m1, a1, a2, a3⟩ := r_pass0 h
    rw [if_neg (by simp), a1, hp_b, (bad _ _ _ a2 a3 he).1]
    exact ⟨_, rfl, fin _ _ _ a2 a3 he⟩
  | true =>
    have n0 := nx_lt (q := q) (by rw [isw_kd c0]; omega)
    obtain ⟨m1, a1, a2, a3⟩ := r_pass1 h
    rw [if_pos rfl, a1, hp_b, a2.2.2.2, hp_eq_t (by decide) (by decide) rfl, r_isWord a2.1 a2.2.1 a2.2.2.1 (by omega), hp_b]
    cases c1 : isw 1 (nx q) with
    | false =>
      have he : e_plan bs q = .error (1, pl bs (nx q)) := by unfold e_plan; rw [if_neg (by rw [c0]; simp), if_pos c1]
      obtain ⟨m2, b1, b2, b3⟩ := r_pass0 a2
      rw [if_neg (by simp), hp_eq_t (by decide) (by decide) rfl]
      have hB1 := b2.up 0 (rv (nx q))
      refine ⟨hv_up (hv_up m2 66 0 (rv (nx q))) 66 1 (rv (nx q)), ?_, fin _ _ _ b2 (a3.trans b3) he⟩
      unfold J_X11_readsPlan_32
      rw [b1, hp_b, r_readsB b2 (by decide) (by decide), hp_b, hp_ast (by decide) (by decide), show (0 : Int).toNat = 0 from rfl, hB1.2.2.2.1, hp_eq_f (by decide) (by decide) (by decide)]
      unfold J_X11_readsPlan_64 J_X11_readsPlan_69
      rw [r_passB hB1 (by decide), hp_b, r_readsB hB1 (by decide) (by decide), hp_b, hp_ast (by decide) (by decide), show (1 : Int).toNat = 1 from rfl]
      rfl
    | true =>
      rw [if_pos rfl, hp_eq_f (by decide) (by decide) (by decide)]
      unfold J_X11_readsPlan_27 J_X11_readsPlan_32
      obtain ⟨m2, b1, b2, b3⟩ := r_pass1 a2
      rw [b1, hp_b]
      have F2 := a3.trans b3
      have n1 := nx_le (nx q)
      obtain ⟨rok, rerr⟩ := r_reads (lo := 0) (hi := 2) b2 (by omega) (by omega)
      cases c2 : e_num bs (nx (nx q)) 0 2 with
      | error e =>
        have he : e_plan bs q = .error e := by unfold e_plan; rw [if_neg (by rw [c0]; simp), if_neg (by rw [c1]; simp), c2]
        obtain ⟨m3, d1, d2, d3⟩ := rerr e c2
        have d1 : f_X11_reads 0 1 m2 = some (rv (nx (nx q)), m3) := d1
        have hB1 := d2.up 0 (rv (nx (nx q)))
        rw [d1, hp_b, hp_ast (by decide) (by decide), show (0 : Int).toNat = 0 from rfl, hB1.2.2.2.1, hp_eq_f (by decide) (by decide) (by decide)]
        refine ⟨hv_up (hv_up m3 66 0 (rv (nx (nx q)))) 66 1 (rv (nx (nx q))), ?_, fin _ _ _ d2 (F2.trans d3) he⟩
        unfold J_X11_readsPlan_64 J_X11_readsPlan_69
        rw [r_passB hB1 (by decide), hp_b, r_readsB hB1 (by decide) (by decide), hp_b, hp_ast (by decide) (by decide), show (1 : Int).toNat = 1 from rfl]
        rfl
      | ok l =>
        obtain ⟨m3, d1, d2, d3⟩ := rok l c2
        have d1 : f_X11_reads 0 1 m2 = some ((l : Int), m3) := d1
        have F3 := F2.trans d3
        have n2 := nx_le (nx (nx q))
        have d2' := d2.up 0 (l : Int)
        rw [d1, hp_b, hp_ast (by decide) (by decide), show (0 : Int).toNat = 0 from rfl, d2'.2.2.2, hp_eq_t (by decide) (by decide) rfl, r_isWord d2'.1 d2'.2.1 d2'.2.2.1 (by omega), hp_b]
        obtain ⟨m4, em4⟩ : ∃ m4 : hMem, m4 = hv_up m3 66 0 (l : Int) := ⟨_, rfl⟩
        rw [← em4] at d2' ⊢
        have F4 : FM m m4 := by rw [em4]; exact F3.fm.up
        have o4 : ∀ j, 2 ≤ j → m4 66 j = m 66 j := fun j hj => by rw [em4, hp_up_j _ _ _ (by omega), F3.1 66 (by omega)]
        have last : ∀ (f : Int × Int) (q' : List Nat) (m5 : hMem), Rb bs q' f m5 → F65 J10 m4 m5 → e_plan bs q = .error f → hv_b (f_X11_reads 1 4 m5) (fun r3 m4 => hv_ast m4 66 216 1 r3 (fun m5 => hv_ret 0 m5)) = some (0, hv_up m5 66 1 (rv q')) ∧ Rp bs q m (hv_up m5 66 1 (rv q')) := fun f q' m5 hB hF he => by
          rw [r_readsB hB (by decide) (by decide), hp_b, hp_ast (by decide) (by decide), show (1 : Int).toNat = 1 from rfl]
          exact ⟨rfl, (F4.trans hF.fm).up, fun j hj => by rw [hp_up_j _ _ _ (by omega), hF.1 66 (by omega)]; exact o4 j hj, Or.inl ⟨f, q', he, hB.up 1 _⟩⟩
        cases c3 : isw 2 (nx (nx (nx q))) with
        | false =>
          have he : e_plan bs q = .error (1, pl bs (nx (nx (nx q)))) := by
            unfold e_plan
            rw [if_neg (by rw [c0]; simp), if_neg (by rw [c1]; simp), c2]
            show (if isw 2 (nx (nx (nx q))) = false then _ else _ : Except (Int × Int) ((Nat × Nat) × List Nat)) = _
            rw [if_pos c3]
          obtain ⟨m5, g1, g2, g3⟩ := r_pass0 d2'
          obtain ⟨l1, l2⟩ := last _ _ _ g2 g3 he
          rw [if_neg (by simp), hp_eq_t (by decide) (by decide) rfl]
          unfold J_X11_readsPlan_69
          rw [g1, hp_b, l1]
          exact ⟨_, rfl, l2⟩
        | true =>
          rw [if_pos rfl, hp_eq_f (by decide) (by decide) (by decide)]
          unfold J_X11_readsPlan_64 J_X11_readsPlan_69
          obtain ⟨m5, g1, g2, g3⟩ := r_pass1 d2'
          rw [g1, hp_b]
          have n3 := nx_le (nx (nx (nx q)))
          obtain ⟨rok2, rerr2⟩ := r_reads (lo := 1) (hi := 5) g2 (by omega) (by omega)
          have hpe : ∀ x, e_num bs (nx (nx (nx (nx q)))) 1 5 = x → e_plan bs q = match x with | .error f => .error f | .ok h => e_end bs (nx (nx (nx (nx (nx q))))) (l, h) := fun x hx => by
            unfold e_plan
            rw [if_neg (by rw [c0]; simp), if_neg (by rw [c1]; simp), c2]
            show (if isw 2 (nx (nx (nx q))) = false then _ else _ : Except (Int × Int) ((Nat × Nat) × List Nat)) = _
            rw [if_neg (by rw [c3]; simp), hx]
            all_goals (cases x <;> rfl)
          cases c4 : e_num bs (nx (nx (nx (nx q)))) 1 5 with
          | error e =>
            have he := hpe _ c4
            obtain ⟨m6, i1, i2, i3⟩ := rerr2 e c4
            have i1 : f_X11_reads 1 4 m5 = some (rv (nx (nx (nx (nx q)))), m6) := i1
            rw [i1, hp_b, hp_ast (by decide) (by decide), show (1 : Int).toNat = 1 from rfl]
            exact ⟨_, rfl, (F4.trans (g3.trans i3).fm).up, fun j hj => by rw [hp_up_j _ _ _ (by omega), (g3.trans i3).1 66 (by omega)]; exact o4 j hj, Or.inl ⟨e, _, he, i2.up 1 _⟩⟩
          | ok t =>
            have he := hpe _ c4
            obtain ⟨m6, i1, i2, i3⟩ := rok2 t c4
            have i1 : f_X11_reads 1 4 m5 = some ((t : Int), m6) := i1
            have n4 := nx_le (nx (nx (nx (nx q))))
            rw [i1, hp_b, hp_ast (by decide) (by decide), show (1 : Int).toNat = 1 from rfl]
            refine ⟨_, rfl, (F4.trans (g3.trans i3).fm).up, fun j hj => by rw [hp_up_j _ _ _ (by omega), (g3.trans i3).1 66 (by omega)]; exact o4 j hj, Or.inr ⟨l, t, _, he, i2.up 1 _, ?_, by rw [hp_up_same], by omega⟩⟩
            rw [hp_up_j _ _ _ (by omega), (g3.trans i3).1 66 (by omega), em4, hp_up_same]
/-! a version's line -/
theorem r_rvB {bs q : List Nat} {f : Int × Int} {vs : List hVr} {m : hMem} (h : Rb bs q f m) (hM : RM vs m) (h30 : vs.length ≤ 30) (hsz : ∀ j, j < vs.length → sz vs j ≤ 24) {lo hi : Int} (hlo : hv_R32 lo) (hhi : hv_R32 hi) : f_X11_readsVersion lo hi m = some (rv q, m) := by
  have kl := kd_le q
  have r := rv_r q
  have hJ : J_X11_readsVersion_50 m = some (rv q, m) := by
    unfold J_X11_readsVersion_50
    rw [hp_ald (by decide) (by decide), show m 66 (2 : Int).toNat = (vs.length : Int) from hM.1, r_readsB h (by decide) (by omega), hp_b]
    rfl
  unfold f_X11_readsVersion
  rw [h.2.2.1.2.2.1, h.2.2.1.2.2.2.2.2]
  by_cases c : kd q = 2
  · rw [hp_eq_t (by omega) (by decide) (by omega), hp_ald (by decide) (by decide), show m 66 (2 : Int).toNat = (vs.length : Int) from hM.1]
    by_cases c2 : rv q < (vs.length : Int)
    · obtain ⟨u, hu⟩ : ∃ u, vs[(rv q).toNat]? = some u := ⟨_, List.getElem?_eq_getElem (by omega)⟩
      have es := (hM.2.2.1 _ u hu).2.2.2.2
      have sb := hsz (rv q).toNat (by omega)
      rw [hp_lt_t (by omega) (by omega) c2, hp_ald (by omega) (by omega), show ((186 : Int) + rv q).toNat = 186 + (rv q).toNat by omega, es, hp_rg (by omega), hp_rg hlo, hp_rg hhi, fe_in (by omega) hlo hhi, hp_b]
      by_cases c3 : lo ≤ (sz vs (rv q).toNat : Int) ∧ (sz vs (rv q).toNat : Int) ≤ hi
      · rw [if_pos c3, hp_eq_f (by decide) (by decide) (by decide), hJ]
      · rw [if_neg c3, hp_eq_t (by decide) (by decide) rfl, r_faultsB h, hp_b, hJ]
    · rw [hp_lt_f (by omega) (by omega) (by omega), hJ]
  · rw [hp_eq_f (by omega) (by decide) (by omega), hJ]
theorem r_rv {bs q : List Nat} {vs : List hVr} {m : hMem} (h : Rg bs q m) (hM : RM vs m) (h30 : vs.length ≤ 30) (hsz : ∀ j, j < vs.length → sz vs j ≤ 24) {lo hi : Int} (hlo : hv_R32 lo) (hhi : hv_R32 hi) :
    (∀ e, e_num bs q 0 vs.length = .error e → ∃ m', f_X11_readsVersion lo hi m = some (rv q, m') ∧ Rb bs q e m' ∧ F65 J10 m m') ∧
    (∀ o, e_num bs q 0 vs.length = .ok o → (lo ≤ (sz vs o : Int) ∧ (sz vs o : Int) ≤ hi) → ∃ m', f_X11_readsVersion lo hi m = some ((o : Int), m') ∧ Rg bs (nx q) m' ∧ F65 J10 m m') ∧
    (∀ o, e_num bs q 0 vs.length = .ok o → ¬ (lo ≤ (sz vs o : Int) ∧ (sz vs o : Int) ≤ hi) → ∃ m', f_X11_readsVersion lo hi m = some (rv q, m') ∧ Rb bs q (2, pl bs q) m' ∧ F65 J10 m m') := by
  have kl := kd_le q
  have r := rv_r q
  have e8 := h.2.2.1.2.2.1
  have e9 := h.2.2.1.2.2.2.2.2
  obtain ⟨rok, rerr⟩ := r_reads (lo := 0) (hi := vs.length) h (by omega) (by omega)
  have hJ : ∀ (mm : hMem) (x : hRs), mm 66 = m 66 → f_X11_reads 0 ((vs.length : Int) - 1) mm = x → J_X11_readsVersion_50 mm = hv_b x (fun r2 m3 => hv_ret r2 m3) := fun mm x e hx => by
    unfold J_X11_readsVersion_50
    rw [hp_ald (by decide) (by decide), e, show m 66 (2 : Int).toNat = (vs.length : Int) from hM.1, hx]
  refine ⟨fun e he => ?_, fun o ho hs => ?_, fun o ho hs => ?_⟩
  · obtain ⟨m', g1, g2, g3⟩ := rerr e he
    have g1 : f_X11_reads 0 ((vs.length : Int) - 1) m = some (rv q, m') := g1
    have J := hJ m _ rfl g1
    rw [hp_b] at J
    refine ⟨m', ?_, g2, g3⟩
    unfold f_X11_readsVersion
    rw [e8, e9]
    by_cases c : kd q = 2
    · have hge : (vs.length : Int) ≤ rv q := by
        unfold e_num at he
        rw [if_pos c] at he
        split at he
        · cases he
        · unfold rv; rw [if_pos c]; omega
      rw [hp_eq_t (by omega) (by decide) (by omega), hp_ald (by decide) (by decide), show m 66 (2 : Int).toNat = (vs.length : Int) from hM.1, hp_lt_f (by omega) (by omega) hge, J]
      rfl
    · rw [hp_eq_f (by omega) (by decide) (by omega), J]
      rfl
  · obtain ⟨a1, a2, a3, a4⟩ := num_ok ho
    have ev : rv q = (o : Int) := by unfold rv; rw [if_pos a1]; omega
    obtain ⟨m', g1, g2, g3⟩ := rok o ho
    have g1 : f_X11_reads 0 ((vs.length : Int) - 1) m = some ((o : Int), m') := g1
    have J := hJ m _ rfl g1
    rw [hp_b] at J
    obtain ⟨u, hu⟩ : ∃ u, vs[o]? = some u := ⟨_, List.getElem?_eq_getElem a4⟩
    have es := (hM.2.2.1 _ u hu).2.2.2.2
    have sb := hsz o a4
    refine ⟨m', ?_, g2, g3⟩
    unfold f_X11_readsVersion
    rw [e8, e9, ev, hp_eq_t (by omega) (by decide) (by omega), hp_ald (by decide) (by decide), show m 66 (2 : Int).toNat = (vs.length : Int) from hM.1, hp_lt_t (by omega) (by omega) (by omega), hp_ald (by omega) (by omega), show ((186 : Int) + (o : Int)).toNat = 186 + o by omega, es, hp_rg (by omega), hp_rg hlo, hp_rg hhi, fe_in (by omega) hlo hhi, hp_b, if_pos hs, hp_eq_f (by decide) (by decide) (by decide), J]
    rfl
  · obtain ⟨a1, a2, a3, a4⟩ := num_ok ho
    have ev : rv q = (o : Int) := by unfold rv; rw [if_pos a1]; omega
    obtain ⟨u, hu⟩ : ∃ u, vs[o]? = some u := ⟨_, List.getElem?_eq_getElem a4⟩
    have es := (hM.2.2.1 _ u hu).2.2.2.2
    have sb := hsz o a4
    obtain ⟨m', g1, g2, g3⟩ := r_faults h 2
    have J := hJ m' _ (g3.1 66 (by omega)) (r_readsB g2 (by decide) (by omega))
    rw [hp_b] at J
    refine ⟨m', ?_, g2, g3⟩
    unfold f_X11_readsVersion
    rw [e8, e9, ev, hp_eq_t (by omega) (by decide) (by omega), hp_ald (by decide) (by decide), show m 66 (2 : Int).toNat = (vs.length : Int) from hM.1, hp_lt_t (by omega) (by omega) (by omega), hp_ald (by omega) (by omega), show ((186 : Int) + (o : Int)).toNat = 186 + o by omega, es, hp_rg (by omega), hp_rg hlo, hp_rg hhi, fe_in (by omega) hlo hhi, hp_b, if_neg hs, hp_eq_t (by decide) (by decide) rfl, g1, hp_b, J, ← ev]
    rfl
