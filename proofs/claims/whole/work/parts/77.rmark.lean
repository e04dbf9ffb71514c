/-! the reference: depth, marks -/
section
variable {law : Nat} {B : hA} {vs : List hVr} {G : hG}
def DpH (B : hA) (vs : List hVr) (G : hG) (f : Nat) (rf : Int → hMem → hRs) : Prop := ∀ (i a : Nat) (m : hMem), Rel B vs G m → (g_H G)[i]? = some a → n_ht (a_g B a) < f → rf (i : Int) m = some ((n_deep (a_g B a) : Int), m)
def DpT (B : hA) (vs : List hVr) (G : hG) (f : Nat) (rf : Int → hMem → hRs) : Prop := ∀ (i a : Nat) (m : hMem), Rel B vs G m → (g_T G)[i]? = some a → n_ht (a_g B a) < f → rf (i : Int) m = some ((n_deep (a_g B a) : Int), m)
theorem dp_15 (hw : Wf law B) {f : Nat} {rf0 rf1 : Int → hMem → hRs} (h1 : DpT B vs G f rf1) {m : hMem} (h : Rel B vs G m) : ∀ (q : List Nat) (n s : Nat) (k : Int), q.length < n → s ≤ 24 → Tl B q → Lr m (g_L G) (g_T G) k q → (∀ x ∈ q, n_ht (a_g B x) < f) → L_X11_deepOf_15 rf0 rf1 n (s : Int) k m = some (((max s (mx B n_deep q) + 1 : Nat) : Int), m)
  | _, 0, _, _, hn, _, _, _, _ => by omega
  | [], n + 1, s, k, hn, hs, ht, hk, hq => by
    have k0 : k = -1 := hk
    show B_X11_deepOf_15 rf0 rf1 (L_X11_deepOf_15 rf0 rf1 n) (s : Int) k m = _
    unfold B_X11_deepOf_15
    rw [hp_lt_t (by omega) (by decide) (by omega)]
    show some ((s : Int) + 1, m) = some (((max s 0 + 1 : Nat) : Int), m)
    rw [show max s 0 = s by omega]
    rfl
  | x :: q, n + 1, s, k, hn, hs, ht, hk, hq => by
    obtain ⟨hx, ht'⟩ := tl_cons.mp ht
    have bx := wf_tn hw (hx x (by simp)).2.1
    obtain ⟨j, ix, ek, jL, e75, gx, hkr⟩ := id hk
    have L4 := h.2.2.2.1.2.2
    simp only [List.length_cons] at hn
    have g := dp_15 hw (rf0 := rf0) h1 h q n (max s (n_deep (a_g B x))) (m 76 j) (by omega) (by omega) ht' hkr (fun y hy => hq y (by simp [hy]))
    show B_X11_deepOf_15 rf0 rf1 (L_X11_deepOf_15 rf0 rf1 n) (s : Int) k m = _
    unfold B_X11_deepOf_15
    rw [ek, hp_lt_f (by omega) (by decide) (by omega), hp_ald (by omega) (by omega), Int.toNat_natCast, e75, h1 ix x m h gx (hq x (by simp)), hp_b, fe_max (by omega) (by omega), hp_b, hp_ald (by omega) (by omega), Int.toNat_natCast, show max (s : Int) (n_deep (a_g B x) : Int) = ((max s (n_deep (a_g B x)) : Nat) : Int) by omega, g]
    show some (((max (max s (n_deep (a_g B x))) (mx B n_deep q) + 1 : Nat) : Int), m) = some (((max s (max (n_deep (a_g B x)) (mx B n_deep q)) + 1 : Nat) : Int), m)
    rw [Nat.max_assoc]
theorem dp_54 (hw : Wf law B) {f : Nat} {rf0 rf1 : Int → hMem → hRs} (h1 : DpT B vs G f rf1) {m : hMem} (h : Rel B vs G m) : ∀ (q : List Nat) (n s : Nat) (k : Int), q.length < n → s ≤ 24 → Tl B q → Lr m (g_L G) (g_T G) k q → (∀ x ∈ q, n_ht (a_g B x) < f) → L_X11_deepIn_54 rf0 rf1 n (s : Int) k m = some (((max s (mx B n_deep q) : Nat) : Int), m)
  | _, 0, _, _, hn, _, _, _, _ => by omega
  | [], n + 1, s, k, hn, hs, ht, hk, hq => by
    have k0 : k = -1 := hk
    show B_X11_deepIn_54 rf0 rf1 (L_X11_deepIn_54 rf0 rf1 n) (s : Int) k m = _
    unfold B_X11_deepIn_54
    rw [hp_lt_t (by omega) (by decide) (by omega)]
    show some ((s : Int), m) = some (((max s 0 : Nat) : Int), m)
    rw [show max s 0 = s by omega]
  | x :: q, n + 1, s, k, hn, hs, ht, hk, hq => by
    obtain ⟨hx, ht'⟩ := tl_cons.mp ht
    have bx := wf_tn hw (hx x (by simp)).2.1
    obtain ⟨j, ix, ek, jL, e75, gx, hkr⟩ := id hk
    have L4 := h.2.2.2.1.2.2
    simp only [List.length_cons] at hn
    have g := dp_54 hw (rf0 := rf0) h1 h q n (max s (n_deep (a_g B x))) (m 76 j) (by omega) (by omega) ht' hkr (fun y hy => hq y (by simp [hy]))
    show B_X11_deepIn_54 rf0 rf1 (L_X11_deepIn_54 rf0 rf1 n) (s : Int) k m = _
    unfold B_X11_deepIn_54
    rw [ek, hp_lt_f (by omega) (by decide) (by omega), hp_ald (by omega) (by omega), Int.toNat_natCast, e75, h1 ix x m h gx (hq x (by simp)), hp_b, fe_max (by omega) (by omega), hp_b, hp_ald (by omega) (by omega), Int.toNat_natCast, show max (s : Int) (n_deep (a_g B x) : Int) = ((max s (n_deep (a_g B x)) : Nat) : Int) by omega, g]
    show some (((max (max s (n_deep (a_g B x))) (mx B n_deep q) : Nat) : Int), m) = some (((max s (max (n_deep (a_g B x)) (mx B n_deep q)) : Nat) : Int), m)
    rw [Nat.max_assoc]
theorem dp_18 (hw : Wf law B) {f it : Nat} {rf0 rf1 : Int → hMem → hRs} (h0 : DpH B vs G f rf0) (h1 : DpT B vs G f rf1) {m : hMem} (h : Rel B vs G m) {bl : List Nat} (hbl : bl.length ≤ 24) (hb : ∀ x ∈ bl, n_ht (a_g B x) < f) (htb : Tl B bl) (it8 : it < 8000) (hkb : Lr m (g_L G) (g_T G) (m 74 it) bl) : ∀ (q : List Nat) (n s : Nat) (k : Int), q.length < n → s ≤ 24 → Hl B q → Lr m (g_L G) (g_H G) k q → (∀ x ∈ q, n_ht (a_g B x) < f) → L_X11_deepIn_18 rf0 rf1 n (it : Int) (s : Int) k m = some (((max s (max (mx B n_deep q) (mx B n_deep bl)) : Nat) : Int), m)
  | _, 0, _, _, hn, _, _, _, _ => by omega
  | [], n + 1, s, k, hn, hs, ht, hk, hq => by
    have k0 : k = -1 := hk
    have g := dp_54 hw (rf0 := rf0) h1 h bl hv_FU s (m 74 it) (fu_lt (by omega)) hs htb hkb hb
    show B_X11_deepIn_18 rf0 rf1 (L_X11_deepIn_18 rf0 rf1 n) (it : Int) (s : Int) k m = _
    unfold B_X11_deepIn_18
    rw [hp_lt_t (by omega) (by decide) (by omega), hp_ald (by omega) (by omega), Int.toNat_natCast]
    refine Eq.trans g ?_
    show some (((max s (mx B n_deep bl) : Nat) : Int), m) = some (((max s (max 0 (mx B n_deep bl)) : Nat) : Int), m)
    rw [Nat.zero_max]
  | x :: q, n + 1, s, k, hn, hs, ht, hk, hq => by
    obtain ⟨hx, ht'⟩ := hl_cons.mp ht
    have bx := wf_tn hw (hx x (by simp)).2.1
    obtain ⟨j, ix, ek, jL, e75, gx, hkr⟩ := id hk
    have L4 := h.2.2.2.1.2.2
    simp only [List.length_cons] at hn
    have g := dp_18 hw h0 h1 h hbl hb htb it8 hkb q n (max s (n_deep (a_g B x))) (m 76 j) (by omega) (by omega) ht' hkr (fun y hy => hq y (by simp [hy]))
    show B_X11_deepIn_18 rf0 rf1 (L_X11_deepIn_18 rf0 rf1 n) (it : Int) (s : Int) k m = _
    unfold B_X11_deepIn_18
    rw [ek, hp_lt_f (by omega) (by decide) (by omega), hp_ald (by omega) (by omega), Int.toNat_natCast, e75, h0 ix x m h gx (hq x (by simp)), hp_b, fe_max (by omega) (by omega), hp_b, hp_ald (by omega) (by omega), Int.toNat_natCast, show max (s : Int) (n_deep (a_g B x) : Int) = ((max s (n_deep (a_g B x)) : Nat) : Int) by omega, g]
    show some (((max (max s (n_deep (a_g B x))) (max (mx B n_deep q) (mx B n_deep bl)) : Nat) : Int), m) = some (((max s (max (max (n_deep (a_g B x)) (mx B n_deep q)) (mx B n_deep bl)) : Nat) : Int), m)
    rw [Nat.max_assoc, Nat.max_assoc]
theorem rrd_H (d : Nat) (x : Int) (m : hMem) : rr_deep (d + 1) true x m = fs_X11_deepOf (rr_deep d true) (rr_deep d false) x m := by
  rw [rr_deep]; exact if_pos rfl
theorem rrd_T (d : Nat) (x : Int) (m : hMem) : rr_deep (d + 1) false x m = fs_X11_deepIn (rr_deep d true) (rr_deep d false) x m := by
  rw [rr_deep]; exact if_neg (by decide)
theorem r_deep (hw : Wf law B) : ∀ (f : Nat), DpH B vs G f (rr_deep f true) ∧ DpT B vs G f (rr_deep f false)
  | 0 => ⟨fun _ _ _ _ _ h => absurd h (Nat.not_lt_zero _), fun _ _ _ _ _ h => absurd h (Nat.not_lt_zero _)⟩
  | f + 1 => by
    obtain ⟨ih0, ih1⟩ := r_deep hw f
    refine ⟨fun i a m h hi hf => ?_, fun i a m h hi hf => ?_⟩
    · obtain ⟨a0, al, ad, a69, aJ, a70⟩ := h.2.2.2.2.2.2.1 i a hi
      obtain ⟨n1, n2, n3, n4, n5, n6, n7, n8, n9⟩ := node_H hw a0 al ad
      have i8 := h.h8 hi
      have g := dp_15 hw (rf0 := rr_deep f true) ih1 h (n_bl (a_g B a)) hv_FU 0 (m 70 i) (fu_lt (by omega)) (by omega) n8 a70 (fun x hx => by have := mx_mem (A := B) (f := n_ht) hx; omega)
      rw [rrd_H]
      unfold fs_X11_deepOf
      rw [hp_lt_f (by omega) (by decide) (by omega), hp_ald (by omega) (by omega), Int.toNat_natCast, n2]
      refine Eq.trans g ?_
      rw [Nat.zero_max, Nat.add_comm]
    · obtain ⟨a0, al, ad, a71, ⟨ih, a72, aH⟩, att, a73, a74⟩ := h.2.2.2.2.2.2.2 i a hi
      obtain ⟨n1, n2, n3, n4, n5, n6, n7, n8, n9, n10, n11, n12, n13⟩ := node_T hw a0 al ad
      have i8 := h.t8 hi
      have bx := wf_tn hw (n8 (n_head (a_g B a)) (by simp)).2.1
      have g := dp_18 (it := i) hw ih0 ih1 h n7 (fun x hx => by have := mx_mem (A := B) (f := n_ht) hx; omega) n10 i8 a74 (n_sg (a_g B a)) hv_FU (n_deep (a_g B (n_head (a_g B a)))) (m 73 i) (fu_lt (by omega)) (by omega) n9 a73 (fun x hx => by have := mx_mem (A := B) (f := n_ht) hx; omega)
      rw [rrd_T]
      unfold fs_X11_deepIn
      rw [hp_ald (by omega) (by omega), Int.toNat_natCast, a72, ih0 ih (n_head (a_g B a)) m h aH (by omega), hp_b, hp_ald (by omega) (by omega), Int.toNat_natCast, n2]
      exact g
theorem r_deepOf (hw : Wf law B) {m : hMem} (h : Rel B vs G m) {r : Int} {a : Nat} (hr : Hp G r a) : f_X11_deepOf r m = some ((n_deep (a_g B a) : Int), m) := by
  rcases hr with ⟨a0, r0⟩ | ⟨i, ri, gi⟩
  · rw [r0, a0, hw.2.1]
    show rr_deep 64 true (-1) m = _
    rw [rrd_H]
    unfold fs_X11_deepOf
    rw [hp_lt_t (by decide) (by decide) (by decide)]
    rfl
  · obtain ⟨a0, al, -⟩ := h.2.2.2.2.2.2.1 i a gi
    rw [ri]
    exact (r_deep (vs := vs) (G := G) hw 64).1 i a m h gi (ht_64 hw a0 al)
/-- marks: a bit for these, the other bit for those -/
def mv (bit : Nat) (Z W : List Nat) (a : Nat) : Int := (if a ∈ Z then (bit : Int) else 0) + (if a ∈ W then 3 - (bit : Int) else 0)
def Mk (bit : Nat) (Z W : List Nat) (G : hG) (m : hMem) : Prop := (∀ i a, (g_H G)[i]? = some a → m 81 i = mv bit Z W a) ∧ ∀ i a, (g_T G)[i]? = some a → m 82 i = mv bit Z W a
theorem and_mv {bit : Nat} (hb : bit = 1 ∨ bit = 2) (Z W : List Nat) (a : Nat) : hv_and (mv bit Z W a) (bit : Int) = if a ∈ Z then (bit : Int) else 0 := by
  unfold mv
  rcases hb with e | e
  · subst e
    by_cases c : a ∈ Z
    · by_cases d : a ∈ W
      · rw [if_pos c, if_pos d]; decide
      · rw [if_pos c, if_neg d]; decide
    · by_cases d : a ∈ W
      · rw [if_neg c, if_pos d]; decide
      · rw [if_neg c, if_neg d]; decide
  · subst e
    by_cases c : a ∈ Z
    · by_cases d : a ∈ W
      · rw [if_pos c, if_pos d]; decide
      · rw [if_pos c, if_neg d]; decide
    · by_cases d : a ∈ W
      · rw [if_neg c, if_pos d]; decide
      · rw [if_neg c, if_neg d]; decide
theorem or_mv {bit : Nat} (hb : bit = 1 ∨ bit = 2) (Z W : List Nat) (a : Nat) (c : a ∉ Z) : hv_or (mv bit Z W a) (bit : Int) = mv bit (a :: Z) W a := by
  unfold mv
  rw [if_neg c, if_pos List.mem_cons_self]
  rcases hb with e | e
  · subst e
    by_cases d : a ∈ W
    · rw [if_pos d]; decide
    · rw [if_neg d]; decide
  · subst e
    by_cases d : a ∈ W
    · rw [if_pos d]; decide
    · rw [if_neg d]; decide
theorem mv_ne {bit : Nat} {Z W : List Nat} {a b : Nat} (h : b ≠ a) : mv bit (a :: Z) W b = mv bit Z W b := by
  unfold mv
  by_cases c : b ∈ Z
  · rw [if_pos c, if_pos (List.mem_cons_of_mem _ c)]
  · rw [if_neg c, if_neg (fun e => by rcases List.mem_cons.mp e with e | e; exact h e; exact c e)]
theorem get_inj {M : List Nat} (hn : M.Nodup) {i j a : Nat} (hi : M[i]? = some a) (hj : M[j]? = some a) : i = j := by
  have := (List.getElem?_inj (get_lt hi) hn (j := j)).mp (by rw [hi, hj])
  exact this
end
