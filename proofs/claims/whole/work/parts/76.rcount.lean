/-! the reference: counting, depth -/
theorem mx_mem {A : hA} {f : hN → Nat} : ∀ {q : List Nat} {x : Nat}, x ∈ q → f (a_g A x) ≤ mx A f q
  | y :: q, x, h => by
    show _ ≤ max (f (a_g A y)) (mx A f q)
    rcases List.mem_cons.mp h with e | e
    · rw [e]; omega
    · have := mx_mem (A := A) (f := f) e; omega
theorem node_H {law : Nat} {A : hA} (hw : Wf law A) {a : Nat} (h0 : 0 < a) (ha : a < A.length) (hd : n_head (a_g A a) = 0) :
    n_holds (a_g A a) = 1 + su A n_holds (n_bl (a_g A a)) ∧ n_deep (a_g A a) = 1 + mx A n_deep (n_bl (a_g A a)) ∧ jb A a = tn A a :: fm A n_jobs (n_bl (a_g A a)) ∧ n_reach (a_g A a) = a :: fm A n_reach (n_bl (a_g A a)) ∧ n_ht (a_g A a) = 1 + mx A n_ht (n_bl (a_g A a)) ∧ n_sg (a_g A a) = [] ∧ (n_bl (a_g A a)).length ≤ 24 ∧ Tl A (n_bl (a_g A a)) ∧ ∀ x ∈ n_bl (a_g A a), x < a := by
  have hH : Hl A [a] := hl_one h0 ha hd
  obtain ⟨t, q, e, hq, hk, -⟩ := wf_heap hw hH
  obtain ⟨z1, -, z3, -⟩ := heap_q hw hH
  have e1 : n_bl (a_g A a) = q := by rw [e]; rfl
  have e2 : tn A a = t := by rw [tn, e]; rfl
  have fl := fm_len hw z1.al
  rw [e1] at z1 z3 fl ⊢
  rw [e2]
  refine ⟨by rw [e]; rfl, by rw [e]; rfl, by rw [jb, e]; rfl, by rw [e]; rfl, by rw [e]; rfl, by rw [e]; rfl, by omega, z1, fun x hx => (hq x hx).2.1⟩
theorem node_T {law : Nat} {A : hA} (hw : Wf law A) {a : Nat} (h0 : 0 < a) (ha : a < A.length) (hd : n_head (a_g A a) ≠ 0) :
    n_holds (a_g A a) = n_holds (a_g A (n_head (a_g A a))) + su A n_holds (n_sg (a_g A a)) + su A n_holds (n_bl (a_g A a)) ∧ n_deep (a_g A a) = max (n_deep (a_g A (n_head (a_g A a)))) (max (mx A n_deep (n_sg (a_g A a))) (mx A n_deep (n_bl (a_g A a)))) ∧ jb A a = jb A (n_head (a_g A a)) ++ (fm A n_jobs (n_sg (a_g A a)) ++ fm A n_jobs (n_bl (a_g A a))) ∧ n_reach (a_g A a) = a :: (n_reach (a_g A (n_head (a_g A a))) ++ (fm A n_reach (n_sg (a_g A a)) ++ fm A n_reach (n_bl (a_g A a)))) ∧ n_ht (a_g A a) = 1 + max (n_ht (a_g A (n_head (a_g A a)))) (max (mx A n_ht (n_sg (a_g A a))) (mx A n_ht (n_bl (a_g A a)))) ∧ (n_sg (a_g A a)).length ≤ 24 ∧ (n_bl (a_g A a)).length ≤ 24 ∧ Hl A [n_head (a_g A a)] ∧ Hl A (n_sg (a_g A a)) ∧ Tl A (n_bl (a_g A a)) ∧ n_head (a_g A a) < a ∧ (∀ x ∈ n_sg (a_g A a), x < a) ∧ ∀ x ∈ n_bl (a_g A a), x < a := by
  have hT : Tl A [a] := tl_one h0 ha hd
  obtain ⟨r, y, sg, bl, e, ⟨y1, y2, y3⟩, hs, hb, -⟩ := wf_tree hw hT
  have h24 := (hw.2.2 a h0 ha).2.1
  have hlen := (hw.2.2 a h0 ha).2.2.1
  have e1 : n_head (a_g A a) = y := by rw [e]; rfl
  have e2 : n_sg (a_g A a) = sg := by rw [e]; rfl
  have e3 : n_bl (a_g A a) = bl := by rw [e]; rfl
  have hHy : Hl A [y] := hl_one y1 (by omega) y3
  have hS : Hl A sg := fun x hx => ⟨(hs x hx).1, by have := (hs x hx).2.1; omega, (hs x hx).2.2.1⟩
  have hB : Tl A bl := fun x hx => ⟨(hb x hx).1, by have := (hb x hx).2.1; omega, (hb x hx).2.2.1⟩
  have f1 := fm_len hw hS.al
  have f2 := fm_len hw hB.al
  have ej : n_jobs (a_g A a) = jb A y ++ (fm A n_jobs sg ++ fm A n_jobs bl) := by rw [e]; rfl
  rw [ej] at hlen
  simp only [List.length_append] at hlen
  rw [e1, e2, e3]
  refine ⟨by rw [e]; rfl, by rw [e]; rfl, ej, by rw [e]; rfl, by rw [e]; rfl, by omega, by omega, hHy, hS, hB, y2, fun x hx => (hs x hx).2.1, fun x hx => (hb x hx).2.1⟩
def cnt (l : List Nat) (j : Nat) : Nat := l.countP (fun t => decide (t % 30 = j))
theorem cnt_app (a b : List Nat) (j : Nat) : cnt (a ++ b) j = cnt a j + cnt b j := List.countP_append
theorem cnt_cons (t : Nat) (l : List Nat) (j : Nat) : cnt (t :: l) j = cnt l j + (if t % 30 = j then 1 else 0) := by
  unfold cnt
  rw [List.countP_cons]
  by_cases c : t % 30 = j
  · simp [c]
  · simp [c]
theorem cnt_perm {a b : List Nat} (h : a.Perm b) (j : Nat) : cnt a j = cnt b j := h.countP_eq _
/-- jobs counted -/
def Of (m m' : hMem) (l : List Nat) : Prop := (∀ k, k ≠ 79 → m' k = m k) ∧ ∀ j, j < 30 → m' 79 j = m 79 j + (cnt l j : Int)
theorem Of.nil (m : hMem) : Of m m [] := ⟨fun _ _ => rfl, fun j _ => by show _ = _ + ((0 : Nat) : Int); omega⟩
theorem Of.trans {m1 m2 m3 : hMem} {a b : List Nat} (h1 : Of m1 m2 a) (h2 : Of m2 m3 b) : Of m1 m3 (a ++ b) := ⟨fun k hk => (h2.1 k hk).trans (h1.1 k hk), fun j hj => by rw [h2.2 j hj, h1.2 j hj, cnt_app]; omega⟩
theorem Of.rel {B : hA} {vs : List hVr} {G : hG} {m m' : hMem} {l : List Nat} (h : Of m m' l) (hR : Rel B vs G m) : Rel B vs G m' := hR.eq' (fun k hk => h.1 k (by omega)) (fun j _ => by rw [h.1 65 (by omega)])
theorem Of.lr {m m' : hMem} {l : List Nat} (h : Of m m' l) {L : Nat} {M q : List Nat} {k : Int} (hk : Lr m L M k q) : Lr m' L M k q := hk.ex (fun j _ => by rw [h.1 75 (by omega), h.1 76 (by omega)]; exact ⟨rfl, rfl⟩) (Nat.le_refl _) (Ms.refl _)
section
variable {law : Nat} {B : hA} {vs : List hVr} {G : hG}
/-- a function that counts what a heap has, one that counts what a tree has -/
def CtH (B : hA) (vs : List hVr) (G : hG) (f : Nat) (rf : Int → hMem → hRs) : Prop := ∀ (i a : Nat) (m : hMem), Rel B vs G m → (g_H G)[i]? = some a → n_ht (a_g B a) < f → ∃ m', rf (i : Int) m = some ((n_holds (a_g B a) : Int), m') ∧ Of m m' (jb B a)
def CtT (B : hA) (vs : List hVr) (G : hG) (f : Nat) (rf : Int → hMem → hRs) : Prop := ∀ (i a : Nat) (m : hMem), Rel B vs G m → (g_T G)[i]? = some a → n_ht (a_g B a) < f → ∃ m', rf (i : Int) m = some ((n_holds (a_g B a) : Int), m') ∧ Of m m' (jb B a)
theorem ct_30 {f : Nat} {rf0 rf1 : Int → hMem → hRs} (h1 : CtT B vs G f rf1) : ∀ (q : List Nat) (n s : Nat) (k : Int) (m : hMem), q.length < n → Rel B vs G m → Lr m (g_L G) (g_T G) k q → (∀ x ∈ q, n_ht (a_g B x) < f) → ∃ m', L_X11_countsHeap_30 rf0 rf1 n (s : Int) k m = some (((s + su B n_holds q : Nat) : Int), m') ∧ Of m m' (fm B n_jobs q)
  | _, 0, _, _, _, hn, _, _, _ => by omega
  | [], n + 1, s, k, m, hn, h, hk, hq => by
    have k0 : k = -1 := hk
    refine ⟨m, ?_, Of.nil m⟩
    show B_X11_countsHeap_30 rf0 rf1 (L_X11_countsHeap_30 rf0 rf1 n) (s : Int) k m = _
    unfold B_X11_countsHeap_30
    rw [hp_lt_t (by omega) (by decide) (by omega)]
    rfl
  | x :: q, n + 1, s, k, m, hn, h, hk, hq => by
    obtain ⟨j, ix, ek, jL, e75, gx, hkr⟩ := id hk
    have L4 := h.2.2.2.1.2.2
    simp only [List.length_cons] at hn
    obtain ⟨m1, a1, a2⟩ := h1 ix x m h gx (hq x (by simp))
    obtain ⟨m', b1, b2⟩ := ct_30 (rf0 := rf0) h1 q n (s + n_holds (a_g B x)) (m 76 j) m1 (by omega) (a2.rel h) (a2.lr hkr) (fun y hy => hq y (by simp [hy]))
    refine ⟨m', ?_, a2.trans b2⟩
    show B_X11_countsHeap_30 rf0 rf1 (L_X11_countsHeap_30 rf0 rf1 n) (s : Int) k m = _
    unfold B_X11_countsHeap_30
    rw [ek, hp_lt_f (by omega) (by decide) (by omega), hp_ald (by omega) (by omega), Int.toNat_natCast, e75, a1, hp_b, hp_set, hp_ald (by omega) (by omega), Int.toNat_natCast, a2.1 76 (by omega), show (s : Int) + (n_holds (a_g B x) : Int) = ((s + n_holds (a_g B x) : Nat) : Int) by omega, b1]
    show some (((s + n_holds (a_g B x) + su B n_holds q : Nat) : Int), m') = some (((s + (n_holds (a_g B x) + su B n_holds q) : Nat) : Int), m')
    rw [Nat.add_assoc]
theorem ct_52 {f : Nat} {rf0 rf1 : Int → hMem → hRs} (h1 : CtT B vs G f rf1) : ∀ (q : List Nat) (n s : Nat) (k : Int) (m : hMem), q.length < n → Rel B vs G m → Lr m (g_L G) (g_T G) k q → (∀ x ∈ q, n_ht (a_g B x) < f) → ∃ m', L_X11_countsTree_52 rf0 rf1 n (s : Int) k m = some (((s + su B n_holds q : Nat) : Int), m') ∧ Of m m' (fm B n_jobs q)
  | _, 0, _, _, _, hn, _, _, _ => by omega
  | [], n + 1, s, k, m, hn, h, hk, hq => by
    have k0 : k = -1 := hk
    refine ⟨m, ?_, Of.nil m⟩
    show B_X11_countsTree_52 rf0 rf1 (L_X11_countsTree_52 rf0 rf1 n) (s : Int) k m = _
    unfold B_X11_countsTree_52
    rw [hp_lt_t (by omega) (by decide) (by omega)]
    rfl
  | x :: q, n + 1, s, k, m, hn, h, hk, hq => by
    obtain ⟨j, ix, ek, jL, e75, gx, hkr⟩ := id hk
    have L4 := h.2.2.2.1.2.2
    simp only [List.length_cons] at hn
    obtain ⟨m1, a1, a2⟩ := h1 ix x m h gx (hq x (by simp))
    obtain ⟨m', b1, b2⟩ := ct_52 (rf0 := rf0) h1 q n (s + n_holds (a_g B x)) (m 76 j) m1 (by omega) (a2.rel h) (a2.lr hkr) (fun y hy => hq y (by simp [hy]))
    refine ⟨m', ?_, a2.trans b2⟩
    show B_X11_countsTree_52 rf0 rf1 (L_X11_countsTree_52 rf0 rf1 n) (s : Int) k m = _
    unfold B_X11_countsTree_52
    rw [ek, hp_lt_f (by omega) (by decide) (by omega), hp_ald (by omega) (by omega), Int.toNat_natCast, e75, a1, hp_b, hp_set, hp_ald (by omega) (by omega), Int.toNat_natCast, a2.1 76 (by omega), show (s : Int) + (n_holds (a_g B x) : Int) = ((s + n_holds (a_g B x) : Nat) : Int) by omega, b1]
    show some (((s + n_holds (a_g B x) + su B n_holds q : Nat) : Int), m') = some (((s + (n_holds (a_g B x) + su B n_holds q) : Nat) : Int), m')
    rw [Nat.add_assoc]
theorem ct_18 {f it : Nat} {rf0 rf1 : Int → hMem → hRs} (h0 : CtH B vs G f rf0) (h1 : CtT B vs G f rf1) {bl : List Nat} (hbl : bl.length ≤ 24) (hb : ∀ x ∈ bl, n_ht (a_g B x) < f) (it8 : it < 8000) : ∀ (q : List Nat) (n s : Nat) (k : Int) (m : hMem), q.length < n → Rel B vs G m → Lr m (g_L G) (g_H G) k q → Lr m (g_L G) (g_T G) (m 74 it) bl → (∀ x ∈ q, n_ht (a_g B x) < f) → ∃ m', L_X11_countsTree_18 rf0 rf1 n (it : Int) (s : Int) k m = some (((s + su B n_holds q + su B n_holds bl : Nat) : Int), m') ∧ Of m m' (fm B n_jobs q ++ fm B n_jobs bl)
  | _, 0, _, _, _, hn, _, _, _, _ => by omega
  | [], n + 1, s, k, m, hn, h, hk, hkb, hq => by
    have k0 : k = -1 := hk
    obtain ⟨m', a1, a2⟩ := ct_52 (rf0 := rf0) h1 bl hv_FU s (m 74 it) m (fu_lt (by omega)) h hkb hb
    refine ⟨m', ?_, a2⟩
    show B_X11_countsTree_18 rf0 rf1 (L_X11_countsTree_18 rf0 rf1 n) (it : Int) (s : Int) k m = _
    unfold B_X11_countsTree_18
    rw [hp_lt_t (by omega) (by decide) (by omega), hp_ald (by omega) (by omega), Int.toNat_natCast]
    exact a1
  | x :: q, n + 1, s, k, m, hn, h, hk, hkb, hq => by
    obtain ⟨j, ix, ek, jL, e75, gx, hkr⟩ := id hk
    have L4 := h.2.2.2.1.2.2
    simp only [List.length_cons] at hn
    obtain ⟨m1, a1, a2⟩ := h0 ix x m h gx (hq x (by simp))
    obtain ⟨m', b1, b2⟩ := ct_18 h0 h1 hbl hb it8 q n (s + n_holds (a_g B x)) (m 76 j) m1 (by omega) (a2.rel h) (a2.lr hkr) (by rw [a2.1 74 (by omega)]; exact a2.lr hkb) (fun y hy => hq y (by simp [hy]))
    refine ⟨m', ?_, ?_⟩
    · show B_X11_countsTree_18 rf0 rf1 (L_X11_countsTree_18 rf0 rf1 n) (it : Int) (s : Int) k m = _
      unfold B_X11_countsTree_18
      rw [ek, hp_lt_f (by omega) (by decide) (by omega), hp_ald (by omega) (by omega), Int.toNat_natCast, e75, a1, hp_b, hp_set, hp_ald (by omega) (by omega), Int.toNat_natCast, a2.1 76 (by omega), show (s : Int) + (n_holds (a_g B x) : Int) = ((s + n_holds (a_g B x) : Nat) : Int) by omega, b1]
      show some (((s + n_holds (a_g B x) + su B n_holds q + su B n_holds bl : Nat) : Int), m') = some (((s + (n_holds (a_g B x) + su B n_holds q) + su B n_holds bl : Nat) : Int), m')
      rw [Nat.add_assoc s]
    · show Of m m' ((jb B x ++ fm B n_jobs q) ++ fm B n_jobs bl)
      rw [List.append_assoc]
      exact a2.trans b2
theorem rrc_H (d : Nat) (x : Int) (m : hMem) : rr_counts (d + 1) true x m = fs_X11_countsHeap (rr_counts d true) (rr_counts d false) x m := by
  rw [rr_counts]; exact if_pos rfl
theorem rrc_T (d : Nat) (x : Int) (m : hMem) : rr_counts (d + 1) false x m = fs_X11_countsTree (rr_counts d true) (rr_counts d false) x m := by
  rw [rr_counts]; exact if_neg (by decide)
theorem r_counts (hw : Wf law B) : ∀ (f : Nat), CtH B vs G f (rr_counts f true) ∧ CtT B vs G f (rr_counts f false)
  | 0 => ⟨fun _ _ _ _ _ h => absurd h (Nat.not_lt_zero _), fun _ _ _ _ _ h => absurd h (Nat.not_lt_zero _)⟩
  | f + 1 => by
    obtain ⟨ih0, ih1⟩ := r_counts hw f
    refine ⟨fun i a m h hi hf => ?_, fun i a m h hi hf => ?_⟩
    · obtain ⟨a0, al, ad, a69, aJ, a70⟩ := h.2.2.2.2.2.2.1 i a hi
      obtain ⟨n1, n2, n3, n4, n5, n6, n7, n8, n9⟩ := node_H hw a0 al ad
      have i8 := h.h8 hi
      have t30 : tn B a % 30 < 30 := Nat.mod_lt _ (by decide)
      obtain ⟨m1, em1⟩ : ∃ m1 : hMem, m1 = hv_up m 79 (tn B a % 30) (m 79 (tn B a % 30) + 1) := ⟨_, rfl⟩
      have o1 : Of m m1 [tn B a] := ⟨fun k hk => by rw [em1, hp_up_kk _ _ _ hk], fun j hj => by
        rw [cnt_cons, em1]
        by_cases c : tn B a % 30 = j
        · rw [← c, hp_up_same, if_pos rfl]
          show _ = _ + ((0 + 1 : Nat) : Int)
          omega
        · rw [hp_up_j _ _ _ (fun e => c e.symm), if_neg c]
          show _ = _ + ((0 + 0 : Nat) : Int)
          omega⟩
      obtain ⟨m', b1, b2⟩ := ct_30 (rf0 := rr_counts f true) ih1 (n_bl (a_g B a)) hv_FU 1 (m1 70 i) m1 (fu_lt (by omega)) (o1.rel h) (by rw [o1.1 70 (by omega)]; exact o1.lr a70) (fun x hx => by have := mx_mem (A := B) (f := n_ht) hx; omega)
      refine ⟨m', ?_, by rw [n3]; exact o1.trans b2⟩
      rw [rrc_H]
      unfold fs_X11_countsHeap
      rw [hp_lt_f (by omega) (by decide) (by omega), hp_ald (by omega) (by omega), Int.toNat_natCast, a69, hp_ald (by omega) (by omega), hp_ast (by omega) (by omega), Int.toNat_natCast, ← em1, hp_ald (by omega) (by omega), Int.toNat_natCast, n1]
      exact b1
    · obtain ⟨a0, al, ad, a71, ⟨ih, a72, aH⟩, att, a73, a74⟩ := h.2.2.2.2.2.2.2 i a hi
      obtain ⟨n1, n2, n3, n4, n5, n6, n7, n8, n9, n10, n11, n12, n13⟩ := node_T hw a0 al ad
      have i8 := h.t8 hi
      obtain ⟨m1, b1, b2⟩ := ih0 ih (n_head (a_g B a)) m h aH (by omega)
      have e73 : m1 73 i = m 73 i := by rw [b2.1 73 (by omega)]
      have e74 : m1 74 i = m 74 i := by rw [b2.1 74 (by omega)]
      obtain ⟨m', c1, c2⟩ := ct_18 (it := i) ih0 ih1 n7 (fun x hx => by have := mx_mem (A := B) (f := n_ht) hx; omega) i8 (n_sg (a_g B a)) hv_FU (n_holds (a_g B (n_head (a_g B a)))) (m1 73 i) m1 (fu_lt (by omega)) (b2.rel h) (by rw [e73]; exact b2.lr a73) (by rw [e74]; exact b2.lr a74) (fun x hx => by have := mx_mem (A := B) (f := n_ht) hx; omega)
      refine ⟨m', ?_, by rw [n3]; exact b2.trans c2⟩
      rw [rrc_T]
      unfold fs_X11_countsTree
      rw [hp_ald (by omega) (by omega), Int.toNat_natCast, a72, b1, hp_b, hp_ald (by omega) (by omega), Int.toNat_natCast, n1]
      exact c1
theorem ht_64 (hw : Wf law B) {a : Nat} (h0 : 0 < a) (ha : a < B.length) : n_ht (a_g B a) < 64 := by
  obtain ⟨-, h24, -, -, -, -, h7, -⟩ := hw.2.2 a h0 ha
  omega
theorem r_countsHeap (hw : Wf law B) {m : hMem} (h : Rel B vs G m) {r : Int} {a : Nat} {l : List Nat} (hr : Hp G r a) (hT : Tb B a l) : ∃ m', f_X11_countsHeap r m = some ((l.length : Int), m') ∧ Of m m' l := by
  rcases hr with ⟨a0, r0⟩ | ⟨i, ri, gi⟩
  · have hl := (hT.zero hw).mp a0
    rw [hl, r0]
    refine ⟨m, ?_, Of.nil m⟩
    show fs_X11_countsHeap (rr_counts 63 true) (rr_counts 63 false) (-1) m = _
    unfold fs_X11_countsHeap
    rw [hp_lt_t (by decide) (by decide) (by decide)]
    rfl
  · obtain ⟨a0, al, -⟩ := h.2.2.2.2.2.2.1 i a gi
    obtain ⟨m', b1, b2⟩ := (r_counts (vs := vs) (G := G) hw 64).1 i a m h gi (ht_64 hw a0 al)
    have hp := hT.perm hw
    have hl := hT.len hw
    refine ⟨m', ?_, b2.1, fun j hj => by rw [b2.2 j hj, cnt_perm hp]⟩
    rw [ri]
    have e : (n_holds (a_g B a) : Int) = (l.length : Int) := by rw [(hw.2.2 a a0 al).2.2.1]; show ((jb B a).length : Int) = _; omega
    rw [← e]
    exact b1
theorem r_countsTree (hw : Wf law B) {m : hMem} (h : Rel B vs G m) {i a : Nat} (gi : (g_T G)[i]? = some a) : ∃ m', f_X11_countsTree (i : Int) m = some ((n_holds (a_g B a) : Int), m') ∧ ∀ k, k ≠ 79 → m' k = m k := by
  obtain ⟨a0, al, -⟩ := h.2.2.2.2.2.2.2 i a gi
  obtain ⟨m', b1, b2⟩ := (r_counts (vs := vs) (G := G) hw 64).2 i a m h gi (ht_64 hw a0 al)
  exact ⟨m', b1, b2.1⟩
theorem r_zeroL : ∀ (d n i : Nat) (r : Int) (m : hMem), i + d = 30 → d < n → ∃ m', L_X11_counts_2 n r (i : Int) m = hv_b (f_X11_countsHeap r m') (fun r1 m2 => hv_ret r1 m2) ∧ (∀ k, k ≠ 79 → m' k = m k) ∧ (∀ j, i ≤ j → j < 30 → m' 79 j = 0) ∧ ∀ j, j < i → m' 79 j = m 79 j
  | _, 0, _, _, _, _, hn => by omega
  | 0, n + 1, i, r, m, hi, hn => by
    refine ⟨m, ?_, fun _ _ => rfl, fun j a b => by omega, fun _ _ => rfl⟩
    show B_X11_counts_2 (L_X11_counts_2 n) r (i : Int) m = _
    unfold B_X11_counts_2
    rw [hp_lt_f (by omega) (by decide) (by omega)]
  | d + 1, n + 1, i, r, m, hi, hn => by
    obtain ⟨m', a1, a2, a3, a4⟩ := r_zeroL d n (i + 1) r (hv_up m 79 i 0) (by omega) (by omega)
    refine ⟨m', ?_, fun k hk => by rw [a2 k hk, hp_up_kk _ _ _ hk], fun j x y => ?_, fun j x => by rw [a4 j (by omega), hp_up_j _ _ _ (by omega)]⟩
    · show B_X11_counts_2 (L_X11_counts_2 n) r (i : Int) m = _
      unfold B_X11_counts_2
      rw [hp_lt_t (by omega) (by decide) (by omega), hp_ast (by omega) (by omega), Int.toNat_natCast, hp_set]
      exact a1
    · by_cases c : j = i
      · rw [c, a4 i (by omega), hp_up_same]
      · exact a3 j (by omega) y
/-- counted: how often each job is there -/
theorem r_countsAll (hw : Wf law B) {m : hMem} (h : Rel B vs G m) {r : Int} {a : Nat} {l : List Nat} (hr : Hp G r a) (hT : Tb B a l) : ∃ m', f_X11_counts r m = some ((l.length : Int), m') ∧ (∀ k, k ≠ 79 → m' k = m k) ∧ ∀ j, j < 30 → m' 79 j = (cnt l j : Int) := by
  obtain ⟨m1, a1, a2, a3, -⟩ := r_zeroL 30 hv_FU 0 r m (by omega) (fu_lt (by omega))
  have h1 : Rel B vs G m1 := h.eq' (fun k hk => a2 k (by omega)) (fun j _ => by rw [a2 65 (by omega)])
  obtain ⟨m', b1, b2⟩ := r_countsHeap hw h1 hr hT
  refine ⟨m', ?_, fun k hk => (b2.1 k hk).trans (a2 k hk), fun j hj => by rw [b2.2 j hj, a3 j (by omega) hj]; omega⟩
  unfold f_X11_counts
  refine Eq.trans a1 ?_
  rw [b1, hp_b]
  rfl
end
