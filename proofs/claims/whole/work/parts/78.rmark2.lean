/-! the reference: marks -/
section
variable {law bit : Nat} {B : hA} {vs : List hVr} {G : hG} {W : List Nat}
def Fmk (m m' : hMem) : Prop := ∀ k, k ≠ 81 → k ≠ 82 → m' k = m k
theorem Fmk.refl (m : hMem) : Fmk m m := fun _ _ _ => rfl
theorem Fmk.trans {m1 m2 m3 : hMem} (h1 : Fmk m1 m2) (h2 : Fmk m2 m3) : Fmk m1 m3 := fun k a b => (h2 k a b).trans (h1 k a b)
theorem Fmk.rel {m m' : hMem} (h : Fmk m m') (hR : Rel B vs G m) : Rel B vs G m' := hR.eq' (fun k hk => h k (by omega) (by omega)) (fun j _ => by rw [h 65 (by omega) (by omega)])
theorem Fmk.lr {m m' : hMem} (h : Fmk m m') {L : Nat} {M q : List Nat} {k : Int} (hk : Lr m L M k q) : Lr m' L M k q := hk.ex (fun j _ => by rw [h 75 (by omega) (by omega), h 76 (by omega) (by omega)]; exact ⟨rfl, rfl⟩) (Nat.le_refl _) (Ms.refl _)
/-- what is marked below a node has all that it reaches -/
def Cz (B : hA) (a : Nat) (Z : List Nat) : Prop := ∀ y ∈ Z, y < a → ∀ z ∈ n_reach (a_g B y), z ∈ Z
def MkH (B : hA) (vs : List hVr) (G : hG) (bit : Nat) (W : List Nat) (f : Nat) (rf : Int → Int → hMem → hRs) : Prop := ∀ (i a : Nat) (Z : List Nat) (m : hMem), Rel B vs G m → (g_H G)[i]? = some a → n_ht (a_g B a) < f → Mk bit Z W G m → Cz B (a + 1) Z → ∃ m' Z', rf (i : Int) (bit : Int) m = some (0, m') ∧ Mk bit Z' W G m' ∧ (∀ x, x ∈ Z' ↔ x ∈ Z ∨ x ∈ n_reach (a_g B a)) ∧ Fmk m m'
def MkT (B : hA) (vs : List hVr) (G : hG) (bit : Nat) (W : List Nat) (f : Nat) (rf : Int → Int → hMem → hRs) : Prop := ∀ (i a : Nat) (Z : List Nat) (m : hMem), Rel B vs G m → (g_T G)[i]? = some a → n_ht (a_g B a) < f → Mk bit Z W G m → Cz B (a + 1) Z → ∃ m' Z', rf (i : Int) (bit : Int) m = some (0, m') ∧ Mk bit Z' W G m' ∧ (∀ x, x ∈ Z' ↔ x ∈ Z ∨ x ∈ n_reach (a_g B a)) ∧ Fmk m m'
theorem cz_step (hw : Wf law B) {a x : Nat} {Z Z' : List Nat} (h : Cz B a Z) (x0 : 0 < x) (xl : x < B.length) (hz : ∀ y, y ∈ Z' ↔ y ∈ Z ∨ y ∈ n_reach (a_g B x)) : Cz B a Z' := by
  intro y hy hya z hzz
  rcases (hz y).mp hy with e | e
  · exact (hz z).mpr (Or.inl (h y e hya z hzz))
  · exact (hz z).mpr (Or.inr (((hw.2.2 x x0 xl).2.2.2.2.2.2.2.1 y e).2.2 z hzz))
theorem mk_33 (hw : Wf law B) {f a : Nat} {rf0 rf1 : Int → Int → hMem → hRs} (h1 : MkT B vs G bit W f rf1) : ∀ (q : List Nat) (n : Nat) (Z : List Nat) (k : Int) (m : hMem), q.length < n → Rel B vs G m → Tl B q → (∀ x ∈ q, x < a) → Lr m (g_L G) (g_T G) k q → (∀ x ∈ q, n_ht (a_g B x) < f) → Mk bit Z W G m → Cz B a Z → ∃ m' Z', L_X11_marks_33 rf0 rf1 n (bit : Int) k m = some (0, m') ∧ Mk bit Z' W G m' ∧ (∀ x, x ∈ Z' ↔ x ∈ Z ∨ x ∈ fm B n_reach q) ∧ Fmk m m'
  | _, 0, _, _, _, hn, _, _, _, _, _, _, _ => by omega
  | [], n + 1, Z, k, m, hn, h, ht, ha, hk, hq, hM, hC => by
    have k0 : k = -1 := hk
    refine ⟨m, Z, ?_, hM, fun x => by simp [fm], Fmk.refl m⟩
    show B_X11_marks_33 rf0 rf1 (L_X11_marks_33 rf0 rf1 n) (bit : Int) k m = _
    unfold B_X11_marks_33
    rw [hp_lt_t (by omega) (by decide) (by omega)]
    rfl
  | x :: q, n + 1, Z, k, m, hn, h, ht, ha, hk, hq, hM, hC => by
    obtain ⟨hx, ht'⟩ := tl_cons.mp ht
    obtain ⟨x0, xl, -⟩ := hx x (by simp)
    obtain ⟨j, ix, ek, jL, e75, gx, hkr⟩ := id hk
    have L4 := h.2.2.2.1.2.2
    have xa := ha x (by simp)
    simp only [List.length_cons] at hn
    obtain ⟨m1, Z1, a1, a2, a3, a4⟩ := h1 ix x Z m h gx (hq x (by simp)) hM (fun y hy hyx => hC y hy (by omega))
    obtain ⟨m', Z', b1, b2, b3, b4⟩ := mk_33 hw (a := a) (rf0 := rf0) h1 q n Z1 (m 76 j) m1 (by omega) (a4.rel h) ht' (fun y hy => ha y (by simp [hy])) (a4.lr hkr) (fun y hy => hq y (by simp [hy])) a2 (cz_step hw hC x0 xl a3)
    refine ⟨m', Z', ?_, b2, fun y => ?_, a4.trans b4⟩
    · show B_X11_marks_33 rf0 rf1 (L_X11_marks_33 rf0 rf1 n) (bit : Int) k m = _
      unfold B_X11_marks_33
      rw [ek, hp_lt_f (by omega) (by decide) (by omega), hp_ald (by omega) (by omega), Int.toNat_natCast, e75, a1, hp_b, hp_ald (by omega) (by omega), Int.toNat_natCast, a4 76 (by omega) (by omega)]
      exact b1
    · rw [b3 y, a3 y]
      show _ ↔ y ∈ Z ∨ y ∈ n_reach (a_g B x) ++ fm B n_reach q
      rw [List.mem_append, or_assoc]
theorem mk_72 (hw : Wf law B) {f a : Nat} {rf0 rf1 : Int → Int → hMem → hRs} (h1 : MkT B vs G bit W f rf1) : ∀ (q : List Nat) (n : Nat) (Z : List Nat) (k : Int) (m : hMem), q.length < n → Rel B vs G m → Tl B q → (∀ x ∈ q, x < a) → Lr m (g_L G) (g_T G) k q → (∀ x ∈ q, n_ht (a_g B x) < f) → Mk bit Z W G m → Cz B a Z → ∃ m' Z', L_X11_marksTree_72 rf0 rf1 n (bit : Int) k m = some (0, m') ∧ Mk bit Z' W G m' ∧ (∀ x, x ∈ Z' ↔ x ∈ Z ∨ x ∈ fm B n_reach q) ∧ Fmk m m'
  | _, 0, _, _, _, hn, _, _, _, _, _, _, _ => by omega
  | [], n + 1, Z, k, m, hn, h, ht, ha, hk, hq, hM, hC => by
    have k0 : k = -1 := hk
    refine ⟨m, Z, ?_, hM, fun x => by simp [fm], Fmk.refl m⟩
    show B_X11_marksTree_72 rf0 rf1 (L_X11_marksTree_72 rf0 rf1 n) (bit : Int) k m = _
    unfold B_X11_marksTree_72
    rw [hp_lt_t (by omega) (by decide) (by omega)]
    rfl
  | x :: q, n + 1, Z, k, m, hn, h, ht, ha, hk, hq, hM, hC => by
    obtain ⟨hx, ht'⟩ := tl_cons.mp ht
    obtain ⟨x0, xl, -⟩ := hx x (by simp)
    obtain ⟨j, ix, ek, jL, e75, gx, hkr⟩ := id hk
    have L4 := h.2.2.2.1.2.2
    have xa := ha x (by simp)
    simp only [List.length_cons] at hn
    obtain ⟨m1, Z1, a1, a2, a3, a4⟩ := h1 ix x Z m h gx (hq x (by simp)) hM (fun y hy hyx => hC y hy (by omega))
    obtain ⟨m', Z', b1, b2, b3, b4⟩ := mk_72 hw (a := a) (rf0 := rf0) h1 q n Z1 (m 76 j) m1 (by omega) (a4.rel h) ht' (fun y hy => ha y (by simp [hy])) (a4.lr hkr) (fun y hy => hq y (by simp [hy])) a2 (cz_step hw hC x0 xl a3)
    refine ⟨m', Z', ?_, b2, fun y => ?_, a4.trans b4⟩
    · show B_X11_marksTree_72 rf0 rf1 (L_X11_marksTree_72 rf0 rf1 n) (bit : Int) k m = _
      unfold B_X11_marksTree_72
      rw [ek, hp_lt_f (by omega) (by decide) (by omega), hp_ald (by omega) (by omega), Int.toNat_natCast, e75, a1, hp_b, hp_ald (by omega) (by omega), Int.toNat_natCast, a4 76 (by omega) (by omega)]
      exact b1
    · rw [b3 y, a3 y]
      show _ ↔ y ∈ Z ∨ y ∈ n_reach (a_g B x) ++ fm B n_reach q
      rw [List.mem_append, or_assoc]
theorem mk_40 (hw : Wf law B) {f a it : Nat} {rf0 rf1 : Int → Int → hMem → hRs} (h0 : MkH B vs G bit W f rf0) (h1 : MkT B vs G bit W f rf1) {bl : List Nat} (hbl : bl.length ≤ 24) (htb : Tl B bl) (hba : ∀ x ∈ bl, x < a) (hbf : ∀ x ∈ bl, n_ht (a_g B x) < f) (it8 : it < 8000) : ∀ (q : List Nat) (n : Nat) (Z : List Nat) (k : Int) (m : hMem), q.length < n → Rel B vs G m → Hl B q → (∀ x ∈ q, x < a) → Lr m (g_L G) (g_H G) k q → Lr m (g_L G) (g_T G) (m 74 it) bl → (∀ x ∈ q, n_ht (a_g B x) < f) → Mk bit Z W G m → Cz B a Z → ∃ m' Z', L_X11_marksTree_40 rf0 rf1 n (it : Int) (bit : Int) k m = some (0, m') ∧ Mk bit Z' W G m' ∧ (∀ x, x ∈ Z' ↔ x ∈ Z ∨ x ∈ fm B n_reach q ++ fm B n_reach bl) ∧ Fmk m m'
  | _, 0, _, _, _, hn, _, _, _, _, _, _, _, _ => by omega
  | [], n + 1, Z, k, m, hn, h, ht, ha, hk, hkb, hq, hM, hC => by
    have k0 : k = -1 := hk
    obtain ⟨m', Z', a1, a2, a3, a4⟩ := mk_72 hw (a := a) (rf0 := rf0) h1 bl hv_FU Z (m 74 it) m (fu_lt (by omega)) h htb hba hkb hbf hM hC
    refine ⟨m', Z', ?_, a2, a3, a4⟩
    show B_X11_marksTree_40 rf0 rf1 (L_X11_marksTree_40 rf0 rf1 n) (it : Int) (bit : Int) k m = _
    unfold B_X11_marksTree_40
    rw [hp_lt_t (by omega) (by decide) (by omega), hp_ald (by omega) (by omega), Int.toNat_natCast]
    exact a1
  | x :: q, n + 1, Z, k, m, hn, h, ht, ha, hk, hkb, hq, hM, hC => by
    obtain ⟨hx, ht'⟩ := hl_cons.mp ht
    obtain ⟨x0, xl, -⟩ := hx x (by simp)
    obtain ⟨j, ix, ek, jL, e75, gx, hkr⟩ := id hk
    have L4 := h.2.2.2.1.2.2
    have xa := ha x (by simp)
    simp only [List.length_cons] at hn
    obtain ⟨m1, Z1, a1, a2, a3, a4⟩ := h0 ix x Z m h gx (hq x (by simp)) hM (fun y hy hyx => hC y hy (by omega))
    obtain ⟨m', Z', b1, b2, b3, b4⟩ := mk_40 hw h0 h1 hbl htb hba hbf it8 q n Z1 (m 76 j) m1 (by omega) (a4.rel h) ht' (fun y hy => ha y (by simp [hy])) (a4.lr hkr) (by rw [a4 74 (by omega) (by omega)]; exact a4.lr hkb) (fun y hy => hq y (by simp [hy])) a2 (cz_step hw hC x0 xl a3)
    refine ⟨m', Z', ?_, b2, fun y => ?_, a4.trans b4⟩
    · show B_X11_marksTree_40 rf0 rf1 (L_X11_marksTree_40 rf0 rf1 n) (it : Int) (bit : Int) k m = _
      unfold B_X11_marksTree_40
      rw [ek, hp_lt_f (by omega) (by decide) (by omega), hp_ald (by omega) (by omega), Int.toNat_natCast, e75, a1, hp_b, hp_ald (by omega) (by omega), Int.toNat_natCast, a4 76 (by omega) (by omega)]
      exact b1
    · rw [b3 y, a3 y]
      show _ ↔ y ∈ Z ∨ y ∈ (n_reach (a_g B x) ++ fm B n_reach q) ++ fm B n_reach bl
      rw [List.append_assoc, List.mem_append (s := n_reach (a_g B x)), or_assoc]
theorem rrm_H (d : Nat) (x y : Int) (m : hMem) : rr_marks (d + 1) true x y m = fs_X11_marks (rr_marks d true) (rr_marks d false) x y m := by
  rw [rr_marks]; exact if_pos rfl
theorem rrm_T (d : Nat) (x y : Int) (m : hMem) : rr_marks (d + 1) false x y m = fs_X11_marksTree (rr_marks d true) (rr_marks d false) x y m := by
  rw [rr_marks]; exact if_neg (by decide)
theorem bit_r {bit : Nat} (hb : bit = 1 ∨ bit = 2) (c : Prop) [Decidable c] : hv_R32 (if c then (bit : Int) else 0) := by
  split <;> omega
theorem r_marks (hw : Wf law B) (hN : Nd B G) (hb : bit = 1 ∨ bit = 2) : ∀ (f : Nat), MkH B vs G bit W f (rr_marks f true) ∧ MkT B vs G bit W f (rr_marks f false)
  | 0 => ⟨fun _ _ _ _ _ _ h => absurd h (Nat.not_lt_zero _), fun _ _ _ _ _ _ h => absurd h (Nat.not_lt_zero _)⟩
  | f + 1 => by
    obtain ⟨ih0, ih1⟩ := r_marks hw hN hb f
    refine ⟨fun i a Z m h hi hf hM hC => ?_, fun i a Z m h hi hf hM hC => ?_⟩
    · obtain ⟨a0, al, ad, a69, aJ, a70⟩ := h.2.2.2.2.2.2.1 i a hi
      obtain ⟨n1, n2, n3, n4, n5, n6, n7, n8, n9⟩ := node_H hw a0 al ad
      have i8 := h.h8 hi
      have e81 := hM.1 i a hi
      rw [rrm_H]
      unfold fs_X11_marks
      rw [hp_lt_f (by omega) (by decide) (by omega), hp_ald (by omega) (by omega), Int.toNat_natCast, e81, and_mv hb]
      by_cases c : a ∈ Z
      · rw [if_pos c, hp_eq_f (by omega) (by decide) (by omega)]
        refine ⟨m, Z, rfl, hM, fun x => ⟨Or.inl, fun hx => ?_⟩, Fmk.refl m⟩
        rcases hx with e | e
        · exact e
        · exact hC a c (by omega) x e
      · rw [if_neg c, hp_eq_t (by decide) (by decide) rfl, hp_ald (by omega) (by omega), Int.toNat_natCast, e81, or_mv hb Z W a c, hp_ast (by omega) (by omega), Int.toNat_natCast]
        obtain ⟨m1, em1⟩ : ∃ m1 : hMem, m1 = hv_up m 81 i (mv bit (a :: Z) W a) := ⟨_, rfl⟩
        rw [← em1]
        have F1 : Fmk m m1 := fun k k1 _ => by rw [em1, hp_up_kk _ _ _ k1]
        have M1 : Mk bit (a :: Z) W G m1 := by
          refine ⟨fun i' a' hi' => ?_, fun i' a' hi' => ?_⟩
          · by_cases ci : i' = i
            · have ea : a' = a := by rw [ci, hi] at hi'; injection hi' with e; exact e.symm
              rw [ci, ea, em1, hp_up_same]
            · have na : a' ≠ a := fun e => ci (get_inj hN.1 (by rw [e] at hi'; exact hi') hi)
              rw [em1, hp_up_j _ _ _ ci, mv_ne na]
              exact hM.1 i' a' hi'
          · have na : a' ≠ a := fun e => by
              have := (h.2.2.2.2.2.2.2 i' a' hi').2.2.1
              rw [e] at this
              exact this ad
            rw [em1, hp_up_k _ _ _ _ (by omega), mv_ne na]
            exact hM.2 i' a' hi'
        have C1 : Cz B a (a :: Z) := fun y hy hya z hz => by
          rcases List.mem_cons.mp hy with e | e
          · omega
          · exact List.mem_cons_of_mem _ (hC y e (by omega) z hz)
        obtain ⟨m', Z', b1, b2, b3, b4⟩ := mk_33 hw (a := a) (rf0 := rr_marks f true) ih1 (n_bl (a_g B a)) hv_FU (a :: Z) (m1 70 i) m1 (fu_lt (by omega)) (F1.rel h) n8 n9 (by rw [F1 70 (by omega) (by omega)]; exact F1.lr a70) (fun x hx => by have := mx_mem (A := B) (f := n_ht) hx; omega) M1 C1
        refine ⟨m', Z', ?_, b2, fun x => ?_, F1.trans b4⟩
        · rw [hp_ald (by omega) (by omega), Int.toNat_natCast]
          exact b1
        · rw [b3 x, n4, List.mem_cons, List.mem_cons]
          constructor
          · rintro ((e | e) | e)
            · exact Or.inr (Or.inl e)
            · exact Or.inl e
            · exact Or.inr (Or.inr e)
          · rintro (e | e | e)
            · exact Or.inl (Or.inr e)
            · exact Or.inl (Or.inl e)
            · exact Or.inr e
    · obtain ⟨a0, al, ad, a71, ⟨ih, a72, aH⟩, att, a73, a74⟩ := h.2.2.2.2.2.2.2 i a hi
      obtain ⟨n1, n2, n3, n4, n5, n6, n7, n8, n9, n10, n11, n12, n13⟩ := node_T hw a0 al ad
      have i8 := h.t8 hi
      have e82 := hM.2 i a hi
      obtain ⟨y0, yl, yd⟩ := n8 (n_head (a_g B a)) (by simp)
      rw [rrm_T]
      unfold fs_X11_marksTree
      rw [hp_ald (by omega) (by omega), Int.toNat_natCast, e82, and_mv hb]
      by_cases c : a ∈ Z
      · rw [if_pos c, hp_eq_f (by omega) (by decide) (by omega)]
        refine ⟨m, Z, rfl, hM, fun x => ⟨Or.inl, fun hx => ?_⟩, Fmk.refl m⟩
        rcases hx with e | e
        · exact e
        · exact hC a c (by omega) x e
      · rw [if_neg c, hp_eq_t (by decide) (by decide) rfl, hp_ald (by omega) (by omega), Int.toNat_natCast, e82, or_mv hb Z W a c, hp_ast (by omega) (by omega), Int.toNat_natCast]
        obtain ⟨m1, em1⟩ : ∃ m1 : hMem, m1 = hv_up m 82 i (mv bit (a :: Z) W a) := ⟨_, rfl⟩
        rw [← em1]
        have F1 : Fmk m m1 := fun k _ k1 => by rw [em1, hp_up_kk _ _ _ k1]
        have M1 : Mk bit (a :: Z) W G m1 := by
          refine ⟨fun i' a' hi' => ?_, fun i' a' hi' => ?_⟩
          · have na : a' ≠ a := fun e => by
              have := (h.2.2.2.2.2.2.1 i' a' hi').2.2.1
              rw [e] at this
              exact ad this
            rw [em1, hp_up_k _ _ _ _ (by omega), mv_ne na]
            exact hM.1 i' a' hi'
          · by_cases ci : i' = i
            · have ea : a' = a := by rw [ci, hi] at hi'; injection hi' with e; exact e.symm
              rw [ci, ea, em1, hp_up_same]
            · have na : a' ≠ a := fun e => ci (get_inj hN.2.1 (by rw [e] at hi'; exact hi') hi)
              rw [em1, hp_up_j _ _ _ ci, mv_ne na]
              exact hM.2 i' a' hi'
        have C1 : Cz B a (a :: Z) := fun y hy hya z hz => by
          rcases List.mem_cons.mp hy with e | e
          · omega
          · exact List.mem_cons_of_mem _ (hC y e (by omega) z hz)
        obtain ⟨m2, Z2, d1, d2, d3, d4⟩ := ih0 ih (n_head (a_g B a)) (a :: Z) m1 (F1.rel h) aH (by omega) M1 (fun y hy hyx => C1 y hy (by omega))
        have C2 := cz_step hw C1 y0 yl d3
        have F2 := F1.trans d4
        obtain ⟨m', Z', b1, b2, b3, b4⟩ := mk_40 hw (a := a) (it := i) ih0 ih1 n7 n10 n13 (fun x hx => by have := mx_mem (A := B) (f := n_ht) hx; omega) i8 (n_sg (a_g B a)) hv_FU Z2 (m2 73 i) m2 (fu_lt (by omega)) (F2.rel h) n9 n12 (by rw [F2 73 (by omega) (by omega)]; exact F2.lr a73) (by rw [F2 74 (by omega) (by omega)]; exact F2.lr a74) (fun x hx => by have := mx_mem (A := B) (f := n_ht) hx; omega) d2 C2
        refine ⟨m', Z', ?_, b2, fun x => ?_, F2.trans b4⟩
        · rw [hp_ald (by omega) (by omega), Int.toNat_natCast, F1 72 (by omega) (by omega), a72, d1, hp_b, hp_ald (by omega) (by omega), Int.toNat_natCast]
          exact b1
        · rw [b3 x, d3 x, n4, List.mem_cons, List.mem_cons, List.mem_append (s := n_reach (a_g B (n_head (a_g B a))))]
          constructor
          · rintro (((e | e) | e) | e)
            · exact Or.inr (Or.inl e)
            · exact Or.inl e
            · exact Or.inr (Or.inr (Or.inl e))
            · exact Or.inr (Or.inr (Or.inr e))
          · rintro (e | e | e | e)
            · exact Or.inl (Or.inl (Or.inr e))
            · exact Or.inl (Or.inl (Or.inl e))
            · exact Or.inl (Or.inr e)
            · exact Or.inr e
/-- marks of a version, from none or from a marked one on -/
theorem r_marksV (hw : Wf law B) (hN : Nd B G) (hb : bit = 1 ∨ bit = 2) {m : hMem} (h : Rel B vs G m) {r : Int} {a : Nat} (hr : Hp G r a) {Z : List Nat} (hM : Mk bit Z W G m) (hC : ∀ n, Cz B n Z) : ∃ m' Z', f_X11_marks r (bit : Int) m = some (0, m') ∧ Mk bit Z' W G m' ∧ (∀ x, x ∈ Z' ↔ x ∈ Z ∨ x ∈ n_reach (a_g B a)) ∧ Fmk m m' ∧ ∀ n, Cz B n Z' := by
  rcases hr with ⟨a0, r0⟩ | ⟨i, ri, gi⟩
  · rw [r0, a0, hw.2.1]
    refine ⟨m, Z, ?_, hM, fun x => ⟨Or.inl, fun hx => ?_⟩, Fmk.refl m, hC⟩
    · show rr_marks 64 true (-1) (bit : Int) m = _
      rw [rrm_H]
      unfold fs_X11_marks
      rw [hp_lt_t (by decide) (by decide) (by decide)]
      rfl
    · rcases hx with e | e
      · exact e
      · have e : x ∈ ([] : List Nat) := e
        cases e
  · obtain ⟨a0, al, -⟩ := h.2.2.2.2.2.2.1 i a gi
    rw [ri]
    obtain ⟨m', Z', b1, b2, b3, b4⟩ := (r_marks (vs := vs) (W := W) hw hN hb 64).1 i a Z m h gi (ht_64 hw a0 al) hM (hC _)
    exact ⟨m', Z', b1, b2, b3, b4, fun n => cz_step hw (hC n) a0 al b3⟩
end
