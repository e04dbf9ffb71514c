/-! the reference: a version's line, ahead of its sign -/
def hw (q : List Nat) : Int := if isw 3 q then 0 else if isw 4 q then 1 else if isw 5 q then 2 else if isw 6 q then 3 else -1
theorem r_how {bs q : List Nat} {m : hMem} (h : Rg bs q m) : f_X11_how m = some (hw q, m) := by
  have iw : ∀ w, w < 8 → f_X11_isWord w m = some (if isw w q then 1 else 0, m) := fun w hw => r_isWord h.1 h.2.1 h.2.2.1 hw
  unfold f_X11_how hw
  rw [iw 3 (by omega), hp_b]
  cases c3 : isw 3 q with
  | true => rw [if_pos rfl, hp_eq_f (by decide) (by decide) (by decide)]; rfl
  | false =>
    rw [if_neg (by simp), hp_eq_t (by decide) (by decide) rfl, iw 4 (by omega), hp_b]
    cases c4 : isw 4 q with
    | true => rw [if_pos rfl, hp_eq_f (by decide) (by decide) (by decide)]; rfl
    | false =>
      rw [if_neg (by simp), hp_eq_t (by decide) (by decide) rfl, iw 5 (by omega), hp_b]
      cases c5 : isw 5 q with
      | true => rw [if_pos rfl, hp_eq_f (by decide) (by decide) (by decide)]; rfl
      | false =>
        rw [if_neg (by simp), hp_eq_t (by decide) (by decide) rfl, iw 6 (by omega), hp_b]
        cases c6 : isw 6 q with
        | true => rw [if_pos rfl, hp_eq_f (by decide) (by decide) (by decide)]; rfl
        | false => rw [if_neg (by simp), hp_eq_t (by decide) (by decide) rfl]; rfl
section
variable {bs q : List Nat} {f : Int × Int} {vs : List hVr} {m : hMem}
theorem r_b167 (h : Rb bs q f m) (x1 x2 x3 x4 x5 : Int) : J_X11_readsVersion__167 x1 x2 x3 x4 x5 m = some (0, m) := by
  unfold J_X11_readsVersion__167
  rw [h.2.2.2.1, hp_eq_f (by decide) (by decide) (by decide)]
  rfl
theorem r_b155 (h : Rb bs q f m) (x1 x2 x3 x4 : Int) {s1 : Int} (hs : hv_R32 s1) : J_X11_readsVersion__155 x1 x2 x3 x4 s1 m = some (0, m) := by
  unfold J_X11_readsVersion__155
  rw [r_passB h hs, hp_b, r_readsB h (by decide) (by decide), hp_b, r_b167 h]
theorem r_b111 (h : Rb bs q f m) {x1 : Int} (hx : hv_R32 x1) (x2 x3 x4 x5 : Int) : J_X11_readsVersion__111 x1 x2 x3 x4 x5 m = some (0, m) := by
  unfold J_X11_readsVersion__111
  rw [h.2.2.2.1, hp_eq_f (a := 1) (b := 0) (by decide) (by decide) (by decide), r_b167 h]
  by_cases c : x1 = 1
  · rw [hp_eq_t hx (by decide) c]
  · rw [hp_eq_f hx (by decide) (by omega)]
theorem r_b80 (h : Rb bs q f m) {x1 : Int} (hx : hv_R32 x1) (x2 x3 x4 x5 : Int) : J_X11_readsVersion__80 x1 x2 x3 x4 x5 m = some (0, m) := by
  unfold J_X11_readsVersion__80
  rw [h.2.2.2.1, hp_eq_f (a := 1) (b := 0) (by decide) (by decide) (by decide), r_b111 h hx]
  by_cases c : x1 = 2
  · rw [hp_eq_t hx (by decide) c]
  · rw [hp_eq_f hx (by decide) (by omega)]
theorem r_b34 (h : Rb bs q f m) (hM : RM vs m) (h30 : vs.length ≤ 30) (hsz : ∀ j, j < vs.length → sz vs j ≤ 24) {x1 : Int} (hx : -1 ≤ x1 ∧ x1 ≤ 3) : J_X11_readsVersion__34 x1 m = some (0, m) := by
  have b76 : ∀ x3 x4 x5 s1 s2 : Int, hv_R32 s1 → hv_R32 s2 → J_X11_readsVersion__76 x1 x3 x4 x5 s1 s2 m = some (0, m) := fun x3 x4 x5 s1 s2 a b => by
    unfold J_X11_readsVersion__76
    rw [r_rvB h hM h30 hsz a b, hp_b, r_b80 h (by omega)]
  have b64 : ∀ x3 x4 x5 s1 : Int, hv_R32 s1 → J_X11_readsVersion__64 x1 x3 x4 x5 s1 m = some (0, m) := fun x3 x4 x5 s1 a => by
    unfold J_X11_readsVersion__64
    rw [b76 x3 x4 x5 s1 23 a (by decide), b76 x3 x4 x5 s1 24 a (by decide)]
    by_cases c : x1 = 1
    · rw [hp_eq_t (by omega) (by decide) c]
    · rw [hp_eq_f (by omega) (by decide) (by omega)]
  unfold J_X11_readsVersion__34
  rw [r_passB h (by decide), hp_b, b64 _ _ _ _ (by decide), b64 _ _ _ _ (by decide), r_b80 h (by omega)]
  by_cases c : 0 < x1
  · rw [hp_lt_t (by decide) (by omega) c]
    by_cases c3 : x1 = 3
    · rw [hp_eq_t (by omega) (by decide) c3]
    · rw [hp_eq_f (by omega) (by decide) (by omega)]
  · rw [hp_lt_f (by decide) (by omega) (by omega)]
end
/-- what a version's line leaves, ahead of its sign -/
def Rq (bs : List Nat) (vs : List hVr) (m m' : hMem) (n : Nat) (e : Except (Int × Int) (hVr × List Nat)) : Prop := FM m m' ∧ (∀ j, j = 0 ∨ j = 1 ∨ j = 4 ∨ j = 5 → m' 66 j = m 66 j) ∧ ((∃ f q', e = .error f ∧ Rb bs q' f m') ∨ ∃ v q', e = e_end bs q' v ∧ Rg bs q' m' ∧ RM (vs ++ [v]) m' ∧ q'.length < n ∧ Os (vs ++ [v]))
theorem Rq.bad {bs q' : List Nat} {vs : List hVr} {m m' : hMem} {n : Nat} {e : Except (Int × Int) (hVr × List Nat)} {f : Int × Int} (hF : F65 J10 m m') (he : e = .error f) (h : Rb bs q' f m') : Rq bs vs m m' n e :=
  ⟨hF.fm, fun j _ => by rw [hF.1 66 (by omega)], Or.inl ⟨f, q', he, h⟩⟩
theorem r_close {bs q : List Nat} {vs : List hVr} {v : hVr} {m m1 : hMem} {n : Nat} {e : Except (Int × Int) (hVr × List Nat)} {x1 x2 x3 x4 x5 : Int} (h : Rg bs q m1) (hM : RM vs m1) (hF : F65 J10 m m1) (hos : Os (vs ++ [v])) (gb : Gb v x1 x2 x3) (hk : v_how v = 1 → x4 = ((v_tu v / 30 : Nat) : Int) ∧ x5 = (v_ti v : Int)) (he : e = e_end bs q v) (hn : q.length < n) :
    ∃ m', J_X11_readsVersion__167 x1 x2 x3 x4 x5 m1 = some (0, m') ∧ Rq bs vs m m' n e := by
  obtain ⟨m', g1, g2, g3, g4⟩ := r_makes hos hM gb hk
  refine ⟨m', ?_, ⟨fun k a b => by rw [g3 k b]; exact hF.1 k a, fun j hj => by rw [g3 65 (by omega)]; exact hF.2 j hj⟩, fun j hj => by rw [g4 j hj, hF.1 66 (by omega)], Or.inr ⟨v, q, he, h.eq (g3 65 (by omega)) (g3 68 (by omega)), g2, hn, hos⟩⟩
  unfold J_X11_readsVersion__167
  rw [h.2.2.2, hp_eq_t (by decide) (by decide) rfl, g1, hp_b]
  rfl
section
variable {bs q : List Nat} {vs : List hVr} {m : hMem}
theorem r_verNew (h : Rg bs q m) (hM : RM vs m) (ho : Os vs) (h20 : vs.length < 20) (hq : kd q ≠ 0) : ∃ m', J_X11_readsVersion__34 0 m = some (0, m') ∧ Rq bs vs m m' q.length (e_end bs (nx q) (0, 0, 0, 0, 0)) := by
  obtain ⟨m1, a1, a2, a3⟩ := r_pass1 h
  have hos : Os (vs ++ [(0, 0, 0, 0, 0)]) := os_snoc.mpr ⟨ho, by omega, Or.inl rfl⟩
  obtain ⟨m', g1, g2⟩ := r_close (x1 := 0) (x2 := -1) (x3 := -1) (x4 := 0) (x5 := 0) (v := (0, 0, 0, 0, 0)) a2 (hM.eq (a3.1 66 (by omega))) a3 hos ⟨rfl, rfl, rfl⟩ (fun c => by cases c) rfl (nx_lt hq)
  refine ⟨m', ?_, g2⟩
  unfold J_X11_readsVersion__34
  rw [a1, hp_b, hp_lt_f (by decide) (by decide) (by decide)]
  unfold J_X11_readsVersion__80
  rw [hp_eq_f (by decide) (by decide) (by decide)]
  unfold J_X11_readsVersion__111
  rw [hp_eq_f (by decide) (by decide) (by decide)]
  exact g1
theorem r_verTake (h : Rg bs q m) (hM : RM vs m) (ho : Os vs) (h20 : vs.length < 20) (hq : kd q ≠ 0) : ∃ m', J_X11_readsVersion__34 3 m = some (0, m') ∧ Rq bs vs m m' q.length (e_take bs vs (nx q)) := by
  have hsz : ∀ j, j < vs.length → sz vs j ≤ 24 := fun j hj => sz_le ho hj
  obtain ⟨m1, a1, a2, a3⟩ := r_pass1 h
  have hM1 := hM.eq (a3.1 66 (by omega))
  obtain ⟨rerr, rok, rno⟩ := r_rv a2 hM1 (by omega) hsz (lo := 1) (hi := 24) (by decide) (by decide)
  have n1 := nx_lt hq
  have n2 := nx_le (nx q)
  unfold J_X11_readsVersion__34
  rw [a1, hp_b, hp_lt_t (by decide) (by decide) (by decide), hp_eq_t (by decide) (by decide) rfl]
  unfold J_X11_readsVersion__64
  rw [hp_eq_f (by decide) (by decide) (by decide)]
  unfold J_X11_readsVersion__76
  cases c : e_num bs (nx q) 0 vs.length with
  | error e =>
    obtain ⟨m2, b1, b2, b3⟩ := rerr e c
    rw [b1, hp_b, r_b80 b2 (by decide)]
    exact ⟨m2, rfl, Rq.bad (a3.trans b3) (by unfold e_take; rw [c]) b2⟩
  | ok o =>
    obtain ⟨z1, z2, z3, z4⟩ := num_ok c
    have s24 := hsz o z4
    by_cases cs : sz vs o = 0
    · obtain ⟨m2, b1, b2, b3⟩ := rno o c (by omega)
      rw [b1, hp_b, r_b80 b2 (by decide)]
      refine ⟨m2, rfl, Rq.bad (a3.trans b3) ?_ b2⟩
      unfold e_take; rw [c]
      show (if sz vs o = 0 then _ else _ : Except (Int × Int) (hVr × List Nat)) = _
      rw [if_pos cs]
    · obtain ⟨m2, b1, b2, b3⟩ := rok o c (by omega)
      rw [b1, hp_b]
      have hos : Os (vs ++ [(3, o, 0, 0, 0)]) := os_snoc.mpr ⟨ho, by omega, Or.inr (Or.inr (Or.inr ⟨rfl, z4, by show 1 ≤ sz vs o; omega⟩))⟩
      unfold J_X11_readsVersion__80
      rw [hp_eq_f (by decide) (by decide) (by decide)]
      unfold J_X11_readsVersion__111
      rw [hp_eq_f (by decide) (by decide) (by decide)]
      refine r_close (v := (3, o, 0, 0, 0)) b2 (hM1.eq (b3.1 66 (by omega))) (a3.trans b3) hos ⟨rfl, rfl, rfl⟩ (fun c => by cases c) ?_ (by omega)
      unfold e_take; rw [c]
      show (if sz vs o = 0 then _ else _ : Except (Int × Int) (hVr × List Nat)) = _
      rw [if_neg cs]
theorem r_verJoin (h : Rg bs q m) (hM : RM vs m) (ho : Os vs) (h20 : vs.length < 20) (hq : kd q ≠ 0) : ∃ m', J_X11_readsVersion__34 2 m = some (0, m') ∧ Rq bs vs m m' q.length (e_join bs vs (nx q)) := by
  have hsz : ∀ j, j < vs.length → sz vs j ≤ 24 := fun j hj => sz_le ho hj
  obtain ⟨m1, a1, a2, a3⟩ := r_pass1 h
  have hM1 := hM.eq (a3.1 66 (by omega))
  obtain ⟨rerr, rok, rno⟩ := r_rv a2 hM1 (by omega) hsz (lo := 0) (hi := 24) (by decide) (by decide)
  have n1 := nx_lt hq
  have n2 := nx_le (nx q)
  have n3 := nx_le (nx (nx q))
  unfold J_X11_readsVersion__34
  rw [a1, hp_b, hp_lt_t (by decide) (by decide) (by decide), hp_eq_f (by decide) (by decide) (by decide)]
  unfold J_X11_readsVersion__64
  rw [hp_eq_f (by decide) (by decide) (by decide)]
  unfold J_X11_readsVersion__76
  cases c : e_num bs (nx q) 0 vs.length with
  | error e =>
    obtain ⟨m2, b1, b2, b3⟩ := rerr e c
    rw [b1, hp_b, r_b80 b2 (by decide)]
    exact ⟨m2, rfl, Rq.bad (a3.trans b3) (by unfold e_join; rw [c]) b2⟩
  | ok o =>
    obtain ⟨z1, z2, z3, z4⟩ := num_ok c
    have s24 := hsz o z4
    obtain ⟨m2, b1, b2, b3⟩ := rok o c (by omega)
    have hM2 := hM1.eq (b3.1 66 (by omega))
    obtain ⟨u, hu⟩ : ∃ u, vs[o]? = some u := ⟨_, List.getElem?_eq_getElem z4⟩
    have es := (hM2.2.2.1 _ u hu).2.2.2.2
    rw [b1, hp_b]
    unfold J_X11_readsVersion__80
    rw [hp_eq_t (by decide) (by decide) rfl, b2.2.2.2, hp_eq_t (by decide) (by decide) rfl, hp_ald (by omega) (by omega), show ((186 : Int) + (o : Int)).toNat = 186 + o by omega, es]
    obtain ⟨rerr2, rok2, rno2⟩ := r_rv b2 hM2 (by omega) hsz (lo := 0) (hi := 24 - (sz vs o : Int)) (by decide) (by omega)
    have F2 := a3.trans b3
    have ej : ∀ x, e_num bs (nx (nx q)) 0 vs.length = x → e_join bs vs (nx q) = match x with | .error f => .error f | .ok o2 => if 24 < sz vs o + sz vs o2 then .error (2, pl bs (nx (nx q))) else e_end bs (nx (nx (nx q))) (2, o, o2, 0, 0) := fun x hx => by
      unfold e_join; rw [c]
      show (match e_num bs (nx (nx q)) 0 vs.length with | .error f => .error f | .ok o2 => if 24 < sz vs o + sz vs o2 then .error (2, pl bs (nx (nx q))) else e_end bs (nx (nx (nx q))) (2, o, o2, 0, 0) : Except (Int × Int) (hVr × List Nat)) = _
      rw [hx]
    cases c2 : e_num bs (nx (nx q)) 0 vs.length with
    | error e =>
      obtain ⟨m3, d1, d2, d3⟩ := rerr2 e c2
      rw [d1, hp_b, r_b111 d2 (by decide)]
      exact ⟨m3, rfl, Rq.bad (F2.trans d3) (ej _ c2) d2⟩
    | ok o2 =>
      obtain ⟨y1, y2, y3, y4⟩ := num_ok c2
      have s242 := hsz o2 y4
      have ej2 := ej _ c2
      by_cases cs : 24 < sz vs o + sz vs o2
      · obtain ⟨m3, d1, d2, d3⟩ := rno2 o2 c2 (by omega)
        rw [d1, hp_b, r_b111 d2 (by decide)]
        refine ⟨m3, rfl, Rq.bad (F2.trans d3) ?_ d2⟩
        rw [ej2]
        show (if 24 < sz vs o + sz vs o2 then _ else _ : Except (Int × Int) (hVr × List Nat)) = _
        rw [if_pos cs]
      · obtain ⟨m3, d1, d2, d3⟩ := rok2 o2 c2 (by omega)
        rw [d1, hp_b]
        have hos : Os (vs ++ [(2, o, o2, 0, 0)]) := os_snoc.mpr ⟨ho, by omega, Or.inr (Or.inr (Or.inl ⟨rfl, z4, y4, by show sz vs o + sz vs o2 ≤ 24; omega⟩))⟩
        unfold J_X11_readsVersion__111
        rw [hp_eq_f (by decide) (by decide) (by decide)]
        refine r_close (v := (2, o, o2, 0, 0)) d2 (hM2.eq (d3.1 66 (by omega))) (F2.trans d3) hos ⟨rfl, rfl, rfl⟩ (fun c => by cases c) ?_ (by omega)
        rw [ej2]
        show (if 24 < sz vs o + sz vs o2 then _ else _ : Except (Int × Int) (hVr × List Nat)) = _
        rw [if_neg cs]
theorem r_verPut (h : Rg bs q m) (hM : RM vs m) (ho : Os vs) (h20 : vs.length < 20) (hq : kd q ≠ 0) : ∃ m', J_X11_readsVersion__34 1 m = some (0, m') ∧ Rq bs vs m m' q.length (e_put bs vs (nx q)) := by
  have hsz : ∀ j, j < vs.length → sz vs j ≤ 24 := fun j hj => sz_le ho hj
  have nn := nput_le vs
  obtain ⟨m1, a1, a2, a3⟩ := r_pass1 h
  have hM1 := hM.eq (a3.1 66 (by omega))
  obtain ⟨rerr, rok, rno⟩ := r_rv a2 hM1 (by omega) hsz (lo := 0) (hi := 23) (by decide) (by decide)
  have n1 := nx_lt hq
  have n2 := nx_le (nx q)
  have n3 := nx_le (nx (nx q))
  have n4 := nx_le (nx (nx (nx q)))
  have n5 := nx_le (nx (nx (nx (nx q))))
  unfold J_X11_readsVersion__34
  rw [a1, hp_b, hp_lt_t (by decide) (by decide) (by decide), hp_eq_f (by decide) (by decide) (by decide)]
  unfold J_X11_readsVersion__64
  rw [hp_eq_t (by decide) (by decide) rfl]
  unfold J_X11_readsVersion__76
  cases c : e_num bs (nx q) 0 vs.length with
  | error e =>
    obtain ⟨m2, b1, b2, b3⟩ := rerr e c
    rw [b1, hp_b, r_b80 b2 (by decide)]
    exact ⟨m2, rfl, Rq.bad (a3.trans b3) (by unfold e_put; rw [c]) b2⟩
  | ok o =>
    obtain ⟨z1, z2, z3, z4⟩ := num_ok c
    have s24 := hsz o z4
    by_cases cs : 24 ≤ sz vs o
    · obtain ⟨m2, b1, b2, b3⟩ := rno o c (by omega)
      rw [b1, hp_b, r_b80 b2 (by decide)]
      refine ⟨m2, rfl, Rq.bad (a3.trans b3) ?_ b2⟩
      unfold e_put; rw [c]
      show (if 24 ≤ sz vs o then _ else _ : Except (Int × Int) (hVr × List Nat)) = _
      rw [if_pos cs]
    · obtain ⟨m2, b1, b2, b3⟩ := rok o c (by omega)
      have hM2 := hM1.eq (b3.1 66 (by omega))
      have F2 := a3.trans b3
      have ep : e_put bs vs (nx q) = match e_num bs (nx (nx q)) 0 1000 with | .error f => .error f | .ok k => if isw 7 (nx (nx (nx q))) = false then .error (1, pl bs (nx (nx (nx q)))) else match e_num bs (nx (nx (nx (nx q)))) 1 100 with | .error f => .error f | .ok t => e_end bs (nx (nx (nx (nx (nx q))))) (1, o, 0, k * 30 + nput vs, t) := by
        unfold e_put; rw [c]
        show (if 24 ≤ sz vs o then _ else _ : Except (Int × Int) (hVr × List Nat)) = _
        rw [if_neg cs]
        all_goals rfl
      rw [b1, hp_b]
      unfold J_X11_readsVersion__80
      rw [hp_eq_f (by decide) (by decide) (by decide)]
      unfold J_X11_readsVersion__111
      rw [hp_eq_t (by decide) (by decide) rfl, b2.2.2.2, hp_eq_t (by decide) (by decide) rfl]
      obtain ⟨rok2, rerr2⟩ := r_reads (lo := 0) (hi := 1000) b2 (by omega) (by omega)
      cases c2 : e_num bs (nx (nx q)) 0 1000 with
      | error e =>
        obtain ⟨m3, d1, d2, d3⟩ := rerr2 e c2
        have d1 : f_X11_reads 0 999 m2 = some (rv (nx (nx q)), m3) := d1
        rw [d1, hp_b, d2.2.2.2.1, hp_eq_f (by decide) (by decide) (by decide)]
        unfold J_X11_readsVersion__150
        rw [r_b155 d2 _ _ _ _ (by decide)]
        exact ⟨m3, rfl, Rq.bad (F2.trans d3) (by rw [ep, c2]) d2⟩
      | ok k =>
        obtain ⟨y1, y2, y3, y4⟩ := num_ok c2
        obtain ⟨m3, d1, d2, d3⟩ := rok2 k c2
        have d1 : f_X11_reads 0 999 m2 = some ((k : Int), m3) := d1
        have hM3 := hM2.eq (d3.1 66 (by omega))
        have F3 := F2.trans d3
        rw [c2] at ep
        have ep : e_put bs vs (nx q) = if isw 7 (nx (nx (nx q))) = false then .error (1, pl bs (nx (nx (nx q)))) else match e_num bs (nx (nx (nx (nx q)))) 1 100 with | .error f => .error f | .ok t => e_end bs (nx (nx (nx (nx (nx q))))) (1, o, 0, k * 30 + nput vs, t) := ep
        rw [d1, hp_b, d2.2.2.2, hp_eq_t (by decide) (by decide) rfl, r_isWord d2.1 d2.2.1 d2.2.2.1 (by omega), hp_b]
        cases c3 : isw 7 (nx (nx (nx q))) with
        | false =>
          rw [if_pos c3] at ep
          obtain ⟨m4, g1, g2, g3⟩ := r_pass0 d2
          rw [if_neg (by simp), hp_eq_t (by decide) (by decide) rfl]
          unfold J_X11_readsVersion__155
          rw [g1, hp_b, r_readsB g2 (by decide) (by decide), hp_b, r_b167 g2]
          exact ⟨m4, rfl, Rq.bad (F3.trans g3) ep g2⟩
        | true =>
          rw [if_neg (by rw [c3]; simp)] at ep
          obtain ⟨m4, g1, g2, g3⟩ := r_pass1 d2
          have hM4 := hM3.eq (g3.1 66 (by omega))
          have F4 := F3.trans g3
          rw [if_pos rfl, hp_eq_f (by decide) (by decide) (by decide)]
          unfold J_X11_readsVersion__150 J_X11_readsVersion__155
          rw [g1, hp_b]
          obtain ⟨rok3, rerr3⟩ := r_reads (lo := 1) (hi := 100) g2 (by omega) (by omega)
          cases c4 : e_num bs (nx (nx (nx (nx q)))) 1 100 with
          | error e =>
            obtain ⟨m5, i1, i2, i3⟩ := rerr3 e c4
            have i1 : f_X11_reads 1 99 m4 = some (rv (nx (nx (nx (nx q)))), m5) := i1
            rw [c4] at ep
            rw [i1, hp_b, r_b167 i2]
            exact ⟨m5, rfl, Rq.bad (F4.trans i3) ep i2⟩
          | ok t =>
            obtain ⟨x1, x2, x3, x4⟩ := num_ok c4
            obtain ⟨m5, i1, i2, i3⟩ := rok3 t c4
            have i1 : f_X11_reads 1 99 m4 = some ((t : Int), m5) := i1
            rw [c4] at ep
            rw [i1, hp_b]
            have hos : Os (vs ++ [(1, o, 0, k * 30 + nput vs, t)]) := os_snoc.mpr ⟨ho, by omega, Or.inr (Or.inl ⟨rfl, z4, ⟨k, by omega, rfl⟩, x3, by show t ≤ 99; omega, by show sz vs o ≤ 23; omega⟩)⟩
            refine r_close (v := (1, o, 0, k * 30 + nput vs, t)) i2 (hM4.eq (i3.1 66 (by omega))) (F4.trans i3) hos ⟨rfl, rfl, rfl⟩ (fun _ => ⟨?_, rfl⟩) ep (by omega)
            show (k : Int) = (((k * 30 + nput vs) / 30 : Nat) : Int)
            omega
theorem r_readsVer (h : Rg bs q m) (hM : RM vs m) (ho : Os vs) (h20 : vs.length ≤ 20) (hq : kd q ≠ 0) : ∃ m', f_X11_readsVersion_ m = some (0, m') ∧ Rq bs vs m m' q.length (e_ver bs vs q) := by
  have hsz : ∀ j, j < vs.length → sz vs j ≤ 24 := fun j hj => sz_le ho hj
  unfold f_X11_readsVersion_
  rw [r_how h, hp_b]
  have hr : -1 ≤ hw q ∧ hw q ≤ 3 := by
    unfold hw
    split
    · omega
    · split
      · omega
      · split
        · omega
        · split <;> omega
  by_cases c : hw q = -1
  · obtain ⟨m1, a1, a2, a3⟩ := r_faults h 1
    rw [hp_eq_t (by omega) (by decide) c, a1, hp_b, r_b34 a2 (hM.eq (a3.1 66 (by omega))) (by omega) hsz hr]
    refine ⟨m1, rfl, Rq.bad a3 ?_ a2⟩
    unfold hw at c
    unfold e_ver
    split at c
    · omega
    · split at c
      · omega
      · split at c
        · omega
        · split at c
          · omega
          · rename_i c3 c4 c5 c6
            rw [if_neg c3, if_neg c4, if_neg c5, if_neg c6]
  · rw [hp_eq_f (by omega) (by decide) (by omega), hp_ald (by decide) (by decide), show m 66 (2 : Int).toNat = (vs.length : Int) from hM.1]
    by_cases c20 : vs.length = 20
    · obtain ⟨m1, a1, a2, a3⟩ := r_faults h 3
      rw [hp_eq_t (by omega) (by decide) (by omega), a1, hp_b, r_b34 a2 (hM.eq (a3.1 66 (by omega))) (by omega) hsz hr]
      refine ⟨m1, rfl, Rq.bad a3 ?_ a2⟩
      unfold hw at c
      unfold e_ver
      by_cases c3 : isw 3 q = true
      · rw [if_pos c3, if_pos (by omega)]
      · rw [if_neg c3] at c ⊢
        by_cases c4 : isw 4 q = true
        · rw [if_pos c4, if_pos (by omega)]
        · rw [if_neg c4] at c ⊢
          by_cases c5 : isw 5 q = true
          · rw [if_pos c5, if_pos (by omega)]
          · rw [if_neg c5] at c ⊢
            by_cases c6 : isw 6 q = true
            · rw [if_pos c6, if_pos (by omega)]
            · rw [if_neg c6] at c
              exact absurd rfl c
    · rw [hp_eq_f (by omega) (by decide) (by omega)]
      have h20' : vs.length < 20 := by omega
      unfold hw at c ⊢
      unfold e_ver
      by_cases c3 : isw 3 q = true
      · rw [if_pos c3, if_pos c3, if_neg (by omega)]
        exact r_verNew h hM ho h20' hq
      · rw [if_neg c3] at c ⊢
        rw [if_neg c3]
        by_cases c4 : isw 4 q = true
        · rw [if_pos c4, if_pos c4, if_neg (by omega)]
          exact r_verPut h hM ho h20' hq
        · rw [if_neg c4] at c ⊢
          rw [if_neg c4]
          by_cases c5 : isw 5 q = true
          · rw [if_pos c5, if_pos c5, if_neg (by omega)]
            exact r_verJoin h hM ho h20' hq
          · rw [if_neg c5] at c ⊢
            rw [if_neg c5]
            by_cases c6 : isw 6 q = true
            · rw [if_pos c6, if_pos c6, if_neg (by omega)]
              exact r_verTake h hM ho h20' hq
            · rw [if_neg c6] at c
              exact absurd rfl c
end
