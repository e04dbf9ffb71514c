/-! the class: what holds between its calls; plan, feed, end -/
theorem run_spec {bs : List Nat} : ∀ (k li la ha : Nat) (vs : List hVr) (q : List Nat) {li' la' ha' : Nat} {vs' : List hVr}, q.length < k → Os vs → vs.length ≤ 20 → la ≤ 1 → ha ≤ 4 → (li = 0 → vs = [] ∧ la = 0 ∧ ha = 0) → (0 < li → 1 ≤ ha) → e_run bs k li la ha vs q = .ok (li', la', ha', vs') →
    Os vs' ∧ vs'.length ≤ 20 ∧ la' ≤ 1 ∧ ha' ≤ 4 ∧ (li' = 0 → vs' = [] ∧ la' = 0 ∧ ha' = 0) ∧ (0 < li' → 1 ≤ ha') ∧ li' ≤ li + q.length
  | 0, _, _, _, _, _, _, _, _, _, hk, _, _, _, _, _, _, _ => by omega
  | k + 1, li, la, ha, vs, q, li', la', ha', vs', hk, ho, h20, hla, hha, hz, hp, h => by
    unfold e_run at h
    split at h
    · injection h with h
      injection h with h1 h
      injection h with h2 h
      injection h with h3 h4
      subst h1; subst h2; subst h3; subst h4
      exact ⟨ho, h20, hla, hha, hz, hp, by omega⟩
    · rename_i c0
      have hq0 : 1 ≤ q.length := ne_pos (fun e => c0 (by rw [e]; rfl))
      split at h
      · rename_i c1
        split at h
        · cases h
        · rename_i r hr
          obtain ⟨⟨l1, h1⟩, q'⟩ := r
          obtain ⟨z1, z2, z3, z4⟩ := plan_spec hr
          have g := run_spec k 1 l1 h1 vs q' (by omega) ho h20 z1 z3 (fun e => by omega) (fun _ => z2) h
          exact ⟨g.1, g.2.1, g.2.2.1, g.2.2.2.1, g.2.2.2.2.1, g.2.2.2.2.2.1, by omega⟩
      · rename_i c1
        split at h
        · cases h
        · rename_i r hr
          obtain ⟨v, q'⟩ := r
          obtain ⟨z1, z2, z3⟩ := ver_spec hr
          have g := run_spec k (li + 1) la ha (vs ++ [v]) q' (by omega) (os_snoc.mpr ⟨ho, by omega, z1⟩) (by rw [List.length_append, List.length_singleton]; omega) hla hha (fun e => by omega) (fun _ => hp (by omega)) h
          exact ⟨g.1, g.2.1, g.2.2.1, g.2.2.2.1, g.2.2.2.2.1, g.2.2.2.2.2.1, by omega⟩
theorem all_spec {bs : List Nat} (h6 : bs.length ≤ 600) {li la ha : Nat} {vs : List hVr} (h : e_all bs = .ok (li, la, ha, vs)) : Os vs ∧ vs.length ≤ 20 ∧ la ≤ 1 ∧ ha ≤ 4 ∧ (li = 0 → vs = [] ∧ la = 0 ∧ ha = 0) ∧ (0 < li → 1 ≤ ha) ∧ li ≤ 600 := by
  have dl : (bs.dropWhile bBl).length ≤ bs.length := len_drop_le
  have g := run_spec 601 0 0 0 [] (bs.dropWhile bBl) (by omega) ⟨by simp, fun n v hv => by simp at hv⟩ (by simp) (by omega) (by omega) (fun _ => ⟨rfl, rfl, rfl⟩) (fun e => by omega) h
  exact ⟨g.1, g.2.1, g.2.2.1, g.2.2.2.1, g.2.2.2.2.1, g.2.2.2.2.2.1, by omega⟩
abbrev hS : Type := (Nat × Nat × Nat × Nat) × List hVr × List Nat × (Int × Int)
/-- law, hands, lines, told; versions; tape; fault -/
def s_la (S : hS) : Nat := S.1.1
def s_ha (S : hS) : Nat := S.1.2.1
def s_li (S : hS) : Nat := S.1.2.2.1
def s_to (S : hS) : Nat := S.1.2.2.2
def s_vs (S : hS) : List hVr := S.2.1
def s_bs (S : hS) : List Nat := S.2.2.1
def s_ff (S : hS) : Int × Int := S.2.2.2
def AV (S : hS) : Prop := Os (s_vs S) ∧ s_la S ≤ 1 ∧ s_ha S ≤ 4 ∧ s_to S ≤ (s_vs S).length ∧ s_to S ≤ 20 ∧ s_li S ≤ 600 ∧ (s_li S = 0 → s_vs S = []) ∧ (0 < s_li S → 1 ≤ s_ha S) ∧ (s_bs S).length ≤ 600 ∧ (∀ x ∈ s_bs S, x < 256) ∧ 0 ≤ (s_ff S).1 ∧ (s_ff S).1 ≤ 3
def CI (S : hS) (r : Nat) (m : hMem) : Prop := m 0 10 = (s_la S : Int) ∧ m 0 11 = (s_ha S : Int) ∧ m 0 12 = (s_li S : Int) ∧ m 0 13 = (s_to S : Int) ∧ (∃ R0 R1, CR (s_vs S) R0 R1 m) ∧ TpC (s_bs S) m ∧ m 3 11 = (s_ff S).1 ∧ m 3 12 = (s_ff S).2 ∧ SzR m ∧ m 58 2 = (r : Int) ∧ ∀ c, c < 864 → 0 ≤ m 59 c ∧ m 59 c ≤ (r : Int)
/-- the class's frame: the reference's cells stay -/
def FC (m m' : hMem) : Prop := ∀ k, 65 ≤ k → m' k = m k
theorem FC.refl (m : hMem) : FC m m := fun _ _ => rfl
theorem FC.trans {m1 m2 m3 : hMem} (h1 : FC m1 m2) (h2 : FC m2 m3) : FC m1 m3 := fun k hk => (h2 k hk).trans (h1 k hk)
theorem c_planL {vs : List hVr} (ho : Os vs) (h20 : vs.length ≤ 20) : ∀ (d n i : Nat) {R0 R1 : Nat → Nat} {m : hMem}, i + d = vs.length → d < n → CR (vs.take i) R0 R1 m → RdC vs m → m 0 13 = (vs.length : Int) → ∃ m' R0' R1', L_X10_plan_74 n (i : Int) m = some (m 0 12, m') ∧ CR vs R0' R1' m' ∧ Fr 11 58 m m'
  | d, 0, _, _, _, _, _, hn, _, _, _ => by omega
  | 0, n + 1, i, R0, R1, m, hi, hn, h, hR, h13 => by
    refine ⟨m, R0, R1, ?_, by rw [show i = vs.length by omega, List.take_length] at h; exact h, Fr.refl _ _ _⟩
    show B_X10_plan_74 (L_X10_plan_74 n) (i : Int) m = _
    unfold B_X10_plan_74
    rw [h13, hp_lt_f (by omega) (by omega) (by omega)]
    rfl
  | d + 1, n + 1, i, R0, R1, m, hi, hn, h, hR, h13 => by
    have hil : i < vs.length := by omega
    obtain ⟨v, hv⟩ : ∃ v, vs[i]? = some v := ⟨_, List.getElem?_eq_getElem hil⟩
    have et : vs.take (i + 1) = vs.take i ++ [v] := by
      rw [List.take_add_one, hv]; rfl
    have hl : (vs.take i).length = i := by rw [List.length_take]; omega
    have hos : Os (vs.take i ++ [v]) := by rw [← et]; exact os_take ho _
    obtain ⟨s1, s2, s3, s4, s5⟩ := hR.2 i v hv
    obtain ⟨m1, R0', R1', a1, a2, a3⟩ := c_growAll (x1 := m 5 i) (x2 := m 6 i) (x3 := m 7 i) (x4 := m 8 i) (x5 := m 9 i) hos h ⟨s1, s2, s3⟩ s4
    rw [← et] at a2
    have hR1 : RdC vs m1 := hR.eq (by rw [a3 3 (by omega)]) (fun k k1 k2 => a3 k (by omega))
    obtain ⟨m', R0'', R1'', g1, g2, g3⟩ := c_planL ho h20 d n (i + 1) (by omega) (by omega) a2 hR1 (by rw [a3 0 (by omega)]; exact h13)
    refine ⟨m', R0'', R1'', ?_, g2, a3.trans g3⟩
    show B_X10_plan_74 (L_X10_plan_74 n) (i : Int) m = _
    unfold B_X10_plan_74 f_X4_howOf f_X4_firstOf f_X4_secondOf f_X4_keyOf f_X4_timeOf
    have at' : ∀ k : Nat, hv_b (f_X10_at k 20 (i : Int) m) (fun r1 m2 => hv_ret r1 m2) = some (m k i, m) := fun k => by
      rw [fe_at' (by omega) (by omega) (by omega), hp_b, Int.toNat_natCast]; rfl
    rw [h13, hp_lt_t (by omega) (by omega) (by omega), at' 5, hp_b, at' 6, hp_b, at' 7, hp_b, at' 8, hp_b, at' 9, hp_b, a1, hp_b, hp_set]
    rw [a3 0 (by omega)] at g1
    exact g1
theorem c_plan {S : hS} {r : Nat} {m : hMem} (hA : AV S) (h : CI S r m) :
    (∀ li la ha vs, e_all (s_bs S) = .ok (li, la, ha, vs) → ∃ m', f_X10_plan m = some ((li : Int), m') ∧ CI ((la, ha, li, vs.length), vs, [], (0, -1)) r m' ∧ FC m m') ∧
    (∀ f, e_all (s_bs S) = .error f → f.1 ≠ 0 ∧ ∃ m', f_X10_plan m = some (-4, m') ∧ CI ((s_la S, s_ha S, s_li S, s_to S), s_vs S, [], f) r m' ∧ FC m m') := by
  obtain ⟨i1, i2, i3, i4, ⟨R0, R1, i5⟩, i6, i7, i8, i9, i10, i11⟩ := h
  obtain ⟨v1, v2, v3, v4, v5, v6, v7, v8, v9, v10, v11, v12⟩ := hA
  obtain ⟨rr, m1, a1, a2, a3, a4⟩ := c_read i6 i9
  obtain ⟨m2, em2⟩ : ∃ m2 : hMem, m2 = hv_up m1 1 1 0 := ⟨_, rfl⟩
  have cut : f_X7_cut 0 m1 = some (0, m2) := by unfold f_X7_cut; rw [hp_put, ← em2]; rfl
  have F2 : ∀ k, k < 1 ∨ 11 ≤ k → m2 k = m k := fun k hk => by rw [em2, hp_up_kk _ _ _ (by omega)]; exact a2 k (by omega)
  have tp2 : ∀ mm : hMem, mm 1 = m2 1 → TpC [] mm := fun mm e => ⟨by rw [e, em2, hp_up_same]; rfl, by simp, fun i hi => by simp at hi, fun x hx => by simp at hx⟩
  have cr2 : CR (s_vs S) R0 R1 m2 := i5.eq (fun k k1 k2 _ => F2 k (by omega))
  have e3 : ∀ j, m2 3 j = m1 3 j := fun j => by rw [em2, hp_up_k _ _ _ _ (by omega)]
  have sz2 : SzR m2 := a3.eq (by rw [em2, hp_up_kk _ _ _ (by omega)])
  refine ⟨fun li la ha vs e => ?_, fun f e => ?_⟩
  · rw [e] at a4
    obtain ⟨b1, b2, b3, b4, b5, b6, b7⟩ := a4
    obtain ⟨w1, w2, w3, w4, w5, w6, w7⟩ := all_spec v9 e
    obtain ⟨m3, c1, c2, c3⟩ := c_cutTo (n := 0) v1 cr2 (by omega)
    rw [List.take_zero] at c2
    obtain ⟨m4, em4⟩ : ∃ m4 : hMem, m4 = hv_up (hv_up (hv_up (hv_up m3 0 10 (la : Int)) 0 11 (ha : Int)) 0 12 (li : Int)) 0 13 (vs.length : Int) := ⟨_, rfl⟩
    have F4 : Fr 0 1 m3 m4 := by rw [em4]; exact (((((Fr.refl _ _ _).up (by omega)).up (by omega)).up (by omega)).up (by omega))
    have k3 : ∀ k, k < 11 ∨ 58 ≤ k → m3 k = m2 k := fun k hk => c3 k (by omega)
    have rd4 : RdC vs m4 := b5.eq (by rw [F4 3 (by omega), k3 3 (by omega), e3]) (fun k k1 k2 => by rw [F4 k (by omega), k3 k (by omega), em2, hp_up_kk _ _ _ (by omega)])
    have cr4 : CR (vs.take 0) R0 R1 m4 := by rw [List.take_zero]; exact c2.eq (fun k k1 k2 _ => F4 k (by omega))
    have e13 : m4 0 13 = (vs.length : Int) := by rw [em4, hp_up_same]
    have e12 : m4 0 12 = (li : Int) := by rw [em4, hp_up_j _ _ _ (by omega), hp_up_same]
    obtain ⟨m5, R0', R1', d1, d2, d3⟩ := c_planL w1 w2 vs.length hv_FU 0 (by omega) (fu_lt (by omega)) cr4 rd4 e13
    have F5 : ∀ k, k < 11 ∨ 58 ≤ k → m5 k = m4 k := fun k hk => d3 k (by omega)
    refine ⟨m5, ?_, ⟨?_, ?_, ?_, ?_, ⟨R0', R1', d2⟩, tp2 m5 ?_, ?_, ?_, sz2.eq ?_, ?_, fun c hc => ?_⟩, fun k hk => ?_⟩
    · have C1 : f_X10_cutTo 0 m2 = some (0, m3) := c1
      have p1 : ∀ mm : hMem, mm 3 = m1 3 → f_X4_lawTold mm = some ((la : Int), mm) ∧ f_X4_handsTold mm = some ((ha : Int), mm) ∧ f_X4_linesTold mm = some ((li : Int), mm) ∧ f_X4_versionsTold mm = some ((vs.length : Int), mm) := fun mm e => by
        unfold f_X4_lawTold f_X4_handsTold f_X4_linesTold f_X4_versionsTold
        rw [e, b2, b3, b4, b5.1]
        exact ⟨rfl, rfl, rfl, rfl⟩
      have e33 : m3 3 = m1 3 := by rw [k3 3 (by omega), em2, hp_up_kk _ _ _ (by omega)]
      unfold f_X10_plan
      rw [a1, hp_b, cut, hp_b, b1, hp_eq_f (by decide) (by decide) (by decide), C1, hp_b, (p1 m3 e33).1, hp_b, hp_put]
      rw [(p1 (hv_up m3 0 10 (la : Int)) (by rw [hp_up_kk _ _ _ (by omega)]; exact e33)).2.1, hp_b, hp_put]
      rw [(p1 (hv_up (hv_up m3 0 10 (la : Int)) 0 11 (ha : Int)) (by rw [hp_up_kk _ _ _ (by omega), hp_up_kk _ _ _ (by omega)]; exact e33)).2.2.1, hp_b, hp_put]
      rw [(p1 (hv_up (hv_up (hv_up m3 0 10 (la : Int)) 0 11 (ha : Int)) 0 12 (li : Int)) (by rw [hp_up_kk _ _ _ (by omega), hp_up_kk _ _ _ (by omega), hp_up_kk _ _ _ (by omega)]; exact e33)).2.2.2, hp_b, hp_put, ← em4, ← e12]
      exact d1
    · rw [F5 0 (by omega), em4, hp_up_j _ _ _ (by omega), hp_up_j _ _ _ (by omega), hp_up_j _ _ _ (by omega), hp_up_same]; rfl
    · rw [F5 0 (by omega), em4, hp_up_j _ _ _ (by omega), hp_up_j _ _ _ (by omega), hp_up_same]; rfl
    · rw [F5 0 (by omega), e12]; rfl
    · rw [F5 0 (by omega), e13]; rfl
    · rw [F5 1 (by omega), F4 1 (by omega), k3 1 (by omega)]
    · rw [F5 3 (by omega), F4 3 (by omega), k3 3 (by omega), e3]; exact b6
    · rw [F5 3 (by omega), F4 3 (by omega), k3 3 (by omega), e3]; exact b7
    · rw [F5 10 (by omega), F4 10 (by omega), k3 10 (by omega)]
    · rw [F5 58 (by omega), F4 58 (by omega), k3 58 (by omega), F2 58 (by omega)]; exact i10
    · rw [F5 59 (by omega), F4 59 (by omega), k3 59 (by omega), F2 59 (by omega)]; exact i11 c hc
    · rw [F5 k (by omega), F4 k (by omega), k3 k (by omega), F2 k (by omega)]
  · rw [e] at a4
    obtain ⟨b1, b2, b3, b4⟩ := a4
    refine ⟨b4, m2, ?_, ⟨?_, ?_, ?_, ?_, ⟨R0, R1, cr2⟩, tp2 m2 rfl, by rw [e3]; exact b2, by rw [e3]; exact b3, sz2, by rw [F2 58 (by omega)]; exact i10, fun c hc => by rw [F2 59 (by omega)]; exact i11 c hc⟩, fun k hk => F2 k (by omega)⟩
    · unfold f_X10_plan
      rw [a1, hp_b, cut, hp_b, b1, hp_eq_t (by decide) (by decide) rfl]
      rfl
    · rw [F2 0 (by omega)]; exact i1
    · rw [F2 0 (by omega)]; exact i2
    · rw [F2 0 (by omega)]; exact i3
    · rw [F2 0 (by omega)]; exact i4
