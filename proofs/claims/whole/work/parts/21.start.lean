
def hv_m0 : hMem := fun k => match k with
  | 3 => fun j => if j = 12 then -1 else 0
  | 27 => fun j => if j = 9 then 1 else if j = 10 then 1 else 0
  | 42 => fun j => if j = 0 then 1 else 0
  | 43 => fun j => if j = 9 then 1 else if j = 10 then 1 else 0
  | 65 => fun j => if j = 5 then -1 else 0
  | _ => fun _ => 0
def hv_tm (i : Nat) : Term := .string RX4 (([75, 81, 86, 115, 121, 123, 125, 134] : List Nat).getD i 0)
def hv_tm2 (i : Nat) : Term := .string RX11 (([136, 142, 144, 146, 148, 150, 152, 160] : List Nat).getD i 0)
def hv_FLC : List Cond := flatC (Jvm.Cond.and given_1 narrow_1)
theorem hv_f1 : ∀ i, i < 8 → Cond.exactly (hv_tm i) "java/lang/String" ∈ hv_FLC := by decide +kernel
theorem hv_f2 : ∀ i, i < 8 → Cond.eq (.field (hv_tm i) "java/lang/String" "coder" "B") (.int 0) ∈ hv_FLC := by decide +kernel
theorem hv_f3 : ∀ i, i < 8 → Cond.arrayOf (.field (hv_tm i) "java/lang/String" "value" "[B") .byte ∈ hv_FLC := by decide +kernel
theorem hv_f4 : ∀ i, i < 8 → Cond.eq (.length (.field (hv_tm i) "java/lang/String" "value" "[B")) (.int (Int32.ofNat (hv_len.getD i 0))) ∈ hv_FLC := by decide +kernel
theorem hv_f5 : ∀ i, i < 8 → ∀ j, j < hv_len.getD i 0 → Cond.eq (.elem (.field (hv_tm i) "java/lang/String" "value" "[B") (.int (Int32.ofNat j))) (.int ((hv_byt.getD i []).getD j 0)) ∈ hv_FLC := by decide +kernel
theorem hv_f6 : ∀ i, i < 8 → ∀ j, j < 8 → i ≠ j → Cond.not (Cond.eq (hv_tm i) (hv_tm j)) ∈ hv_FLC ∨ Cond.not (Cond.eq (hv_tm j) (hv_tm i)) ∈ hv_FLC := by decide +kernel
theorem hv_f7 : ∀ i, i < 8 → Cond.eq (hv_tm i) (hv_tm2 i) ∈ hv_FLC := by decide +kernel
theorem hv_f8 : Cond.eq (.static "java/lang/String" "COMPACT_STRINGS" "Z") (.int 1) ∈ hv_FLC := by decide +kernel
theorem hv_f9 : Cond.isRef (.static "jdk/internal/util/Preconditions" "SIOOBE_FORMATTER" "Ljava/util/function/BiFunction;") ∈ hv_FLC := by decide +kernel
theorem hv_f10 : ∀ i, i < 16 → ∀ q, hv_SC[i]? = some q → Cond.stringRef q.1 q.2.1 q.2.2.1 ∈ tables_1 ∧ (Term.string q.1 q.2.1 = hv_tm q.2.2.2 ∨ Term.string q.1 q.2.1 = hv_tm2 q.2.2.2) ∧ q.2.2.2 < 8 := by
  intro i hi
  have h : ∀ i, i < 16 → ∀ q ∈ hv_SC[i]?, Cond.stringRef q.1 q.2.1 q.2.2.1 ∈ tables_1 ∧ (Term.string q.1 q.2.1 = hv_tm q.2.2.2 ∨ Term.string q.1 q.2.1 = hv_tm2 q.2.2.2) ∧ q.2.2.2 < 8 := by decide +kernel
  exact fun q hq => h i hi q hq
theorem hv_f11 : ∀ q ∈ hv_NL, Cond.methodLinkNest q.1 q.2.1 q.2.2.1 q.2.2.2 ∈ tables_1 := by decide +kernel
/-- what the Statement gives of the texts, at the law's entry -/
theorem hv_Str0 {s : State} {args : Array Value} {ad : Nat → Nat} (hts : ∀ w ∈ lw_tbl, w.before args s = true) (hgv : (Jvm.Cond.and given_1 narrow_1).before args s = true) (hadr : ∀ k, k < hv_N → s.heap.size ≤ ad k) : ∃ ak av : Nat → Nat, hv_Str ak av (hv_A ad s.heap.size) s := by
  have hs : ∀ c ∈ hv_FLC, c.before args s = true := flat_of_before _ hgv
  have hA : ∀ a : Nat, a < s.heap.size → ¬ hv_A ad s.heap.size a := by
    intro a ha h
    rcases h with ⟨k, hk, e⟩ | h
    · have := hadr k hk
      omega
    · omega
  have ht1 : ∀ w ∈ tables_1, w.before args s = true := fun w hw => hts w (List.mem_append_right _ hw)
  obtain ⟨ak, av, h1, h2⟩ := vk_Sof (args := args) (s := s) (N := 8) (tm := hv_tm) (len := hv_len) (byt := hv_byt) (A := hv_A ad s.heap.size) (by decide) (fun i hi => hs _ (hv_f1 i hi)) (fun i hi => hs _ (hv_f2 i hi)) (fun i hi => hs _ (hv_f3 i hi)) (fun i hi => hs _ (hv_f4 i hi)) (fun i hi j hj => hs _ (hv_f5 i hi j hj)) (fun i j hi hj hij => (hv_f6 i hi j hj hij).elim (fun h => Or.inl (hs _ h)) (fun h => Or.inr (hs _ h))) hA
  refine ⟨ak, av, h1, fun q hq => ?_, ?_, fun q hq => ?_, ?_⟩
  · obtain ⟨i, hi⟩ := List.getElem?_of_mem hq
    have hi16 : i < 16 := (List.getElem?_eq_some_iff.mp hi).1
    obtain ⟨f1, f2, f3⟩ := hv_f10 i hi16 q hi
    refine vk_R.of (ht1 _ f1) ?_
    have h3 := h2 _ f3
    rcases f2 with f2 | f2
    · rw [f2]; exact h3
    · rw [f2]; exact va_eqR (hs _ (hv_f7 _ f3)) h3
  · exact va_Zof (ht1 _ (List.mem_of_getElem? (i := 429) (by decide +kernel))) (ht1 _ (List.mem_of_getElem? (i := 14) (by decide +kernel))) (va_eqi (hs _ hv_f8)) hA
  · exact va_Nw.of rfl (ht1 _ (hv_f11 q hq))
  · exact va_Zqof (ht1 _ (List.mem_of_getElem? (i := 445) (by decide +kernel))) (ht1 _ (List.mem_of_getElem? (i := 16) (by decide +kernel))) (hs _ hv_f9) hA

set_option maxRecDepth 100000 in
set_option maxHeartbeats 8000000 in
/-- THE LAW, from its entry: all that is left to show is that its function answers -/
theorem hv_whole {p : Program} {e : Env} {s : State} {m : MethodId} {below : List Frame} {meth : Method} {c : Code} (l : Launch) {b L : Nat} {xs : Nat → Int32} (hL : L ≤ 3072) (C0 : lw_At p s m meth c b L xs) (hpure : ∃ (r : Int) (m' : hMem), L_law (fun j => (xs j).toInt) L 600 0 hv_m0 = some (r, m')) : W p l e room_1 s m #[Value.ref b] below meth c s.heap [] 0 0 (lw_Z below #[Value.ref b] s) (entryFrame m ([Value.ref b] : List Value).toArray 4) := by
  obtain ⟨hx, hb, hr, hml, hown, hts, hX, hbl, hlocks, hgv⟩ := id C0
  have htb : ∀ w ∈ hv_tbl, w.before #[Value.ref b] s = true := fun w hw => hts w (List.mem_filter.mp hw).1
  obtain ⟨c0, iS0, hKn0⟩ := u_known (C := RX0) (T := TX0) (N := 2) (n := 2) htb inX0 (htb (.instantiable RX0 2) tw_154)
  obtain ⟨c1, iS1, hKn1⟩ := u_known (C := RX1) (T := TX1) (N := 11) (n := 11) htb inX1 (htb (.instantiable RX1 11) tw_173)
  obtain ⟨c2, iS2, hKn2⟩ := u_known (C := RX2) (T := TX2) (N := 10) (n := 10) htb inX2 (htb (.instantiable RX2 10) tw_167)
  obtain ⟨c3, iS3, hKn3⟩ := u_known (C := RX3) (T := TX3) (N := 3) (n := 3) htb inX3 (htb (.instantiable RX3 3) tw_113)
  obtain ⟨c4, iS4, hKn4⟩ := u_known (C := RX4) (T := TX4) (N := 14) (n := 14) htb inX4 (htb (.instantiable RX4 14) tw_42)
  obtain ⟨c5, iS5, hKn5⟩ := u_known (C := RX5) (T := TX5) (N := 9) (n := 9) htb inX5 (htb (.instantiable RX5 9) tw_263)
  obtain ⟨c6, iS6, hKn6⟩ := u_known (C := RX6) (T := TX6) (N := 6) (n := 6) htb inX6 (htb (.instantiable RX6 6) tw_129)
  obtain ⟨c7, iS7, hKn7⟩ := u_known (C := RX7) (T := TX7) (N := 2) (n := 2) htb inX7 (htb (.instantiable RX7 2) tw_28)
  obtain ⟨c8, iS8, hKn8⟩ := u_known (C := RX8) (T := TX8) (N := 5) (n := 5) htb inX8 (htb (.instantiable RX8 5) tw_48)
  obtain ⟨c9, iS9, hKn9⟩ := u_known (C := RX9) (T := TX9) (N := 4) (n := 4) htb inX9 (htb (.instantiable RX9 4) tw_244)
  obtain ⟨c10, iS10, hKn10⟩ := u_known (C := RX10) (T := TX10) (N := 14) (n := 14) htb inX10 (htb (.instantiable RX10 14) tw_20)
  obtain ⟨c11, iS11, hKn11⟩ := u_known (C := RX11) (T := TX11) (N := 32) (n := 32) htb inX11 (htb (.instantiable RX11 32) tw_1122)
  obtain ⟨ca, hca1, hca2⟩ := hv_ca0 (htb (.arrayClass .int) tw_40)
  obtain ⟨dC, dI, hKc⟩ : ∃ (dC : Nat → ClassId) (dI : Nat → Nat → Nat), ∀ (k : Nat) (q : vw_C), vwCl[k]? = some q → u_Kn s q.1 q.2.1 q.2.2 (dC k) (dI k) := by
    refine ⟨(fun k => match k with | 0 => c0 | 1 => c1 | 2 => c2 | 3 => c3 | 4 => c4 | 5 => c5 | 6 => c6 | 7 => c7 | 8 => c8 | 9 => c9 | 10 => c10 | _ => c11), (fun k => match k with | 0 => iS0 | 1 => iS1 | 2 => iS2 | 3 => iS3 | 4 => iS4 | 5 => iS5 | 6 => iS6 | 7 => iS7 | 8 => iS8 | 9 => iS9 | 10 => iS10 | _ => iS11), ?_⟩
    intro k q hq
    match k, hq with
    | 0, hq => cases hq; exact hKn0
    | 1, hq => cases hq; exact hKn1
    | 2, hq => cases hq; exact hKn2
    | 3, hq => cases hq; exact hKn3
    | 4, hq => cases hq; exact hKn4
    | 5, hq => cases hq; exact hKn5
    | 6, hq => cases hq; exact hKn6
    | 7, hq => cases hq; exact hKn7
    | 8, hq => cases hq; exact hKn8
    | 9, hq => cases hq; exact hKn9
    | 10, hq => cases hq; exact hKn10
    | 11, hq => cases hq; exact hKn11
    | k + 12, hq => simp [vwCl] at hq
  have hK : va_K (dC, dI) vwCl [(ca, .int)] s := ⟨hKc, fun k q h => by
    match k, h with
    | 0, h => cases h; exact ⟨hca1, hca2⟩
    | k + 1, h => simp at h⟩
  have hNL : kn_NL s := fun q hq => va_Nw.of rfl (hts _ (List.mem_append_right _ (hv_f11 q hq)))
  have hl := lv_entry ([.ref b]) (n := 4) (Nat.le_of_ble_eq_true rfl)
  rw [lg_entry_eq]
  generalize hXe : (((p, l, e, room_1, s, m, #[Value.ref b], below, meth, c), ((dC, dI), ca, fun _ => 0, fun _ => 0, fun _ => 0)) : hv_X) = X
  have hc : kn_C X (fun q => s.heap.size ≤ q) code 4 RL 2048 600000 7302250 := by
    subst hXe
    exact ⟨hx, hb, hml, hown, htb, hK, hNL, Nat.le_refl _, Nat.le_of_ble_eq_true rfl, rfl, rfl, fun _ h => h⟩
  have hcaX : kn_ca X = ca := by subst hXe; rfl
  suffices hgoal : kn_R X (fun q => s.heap.size ≤ q) 4 0 0 (lw_Z below #[Value.ref b] s) [] [(0, .ref b)] [] 0 by
    subst hXe
    exact hgoal s.heap [] _ (fun k q h => by simp at h) ⟨fun i j p q h => by simp at h, fun k q h => by simp at h⟩ va_S.rf hl
  refine kn_new (ci := 10) (fs := [.null, .null, .null, .null, .null, .null, .null, .null, .null, .null, .int 0, .int 0, .int 0, .int 0]) hc tyX10 rfl inX10 tyX10_ok tw_19 tw_20 tw_1 (by intro j hj; revert j; decide) (by decide) (by decide) dL_law_0 (fun a0 => ?_)
  refine kn_dup hc dL_law_3 ?_
  refine kn_callI (n := 0) (wr := []) hc (ci_X10 a0) tw_23 tw_22 tw_1 (by decide +kernel) (by decide) rfl tw_21 [0] [] rfl rfl (by decide) (by decide) (by decide) rfl rfl (Nat.le_of_ble_eq_true rfl) (Nat.le_of_ble_eq_true rfl) (by decide) (by decide) dL_law_4 (fun u1 => ?_)
  refine kn_astore (lv' := [(1, .ref a0), (0, .ref b)]) hc dL_law_7 rfl (by decide) rfl ?_
  refine kn_new (ci := 11) (fs := [.null, .null, .null, .int 0, .int 0, .int 0, .int 0, .int 0, .int 0, .int 0, .int 0, .null, .null, .int 0, .null, .null, .null, .null, .int 0, .null, .null, .int 0, .int 0, .null, .null, .null, .null, .null, .null, .null, .null, .null]) hc tyX11 rfl inX11 tyX11_ok tw_1121 tw_1122 tw_12 (by intro j hj; revert j; decide) (by decide) (by decide) dL_law_8 (fun a1 => ?_)
  refine kn_dup hc dL_law_11 ?_
  refine kn_callI (n := 0) (wr := wi_X10 a0 (kn_ca X) u1) hc (ci_X11 a1) tw_1125 tw_1124 tw_12 (by decide +kernel) (by decide) rfl tw_1123 [65] [0, 1, 2, 3, 4, 5, 6, 7, 8, 9, 10, 11, 12, 13, 14, 15, 16, 17, 18, 19, 20, 21, 22, 23, 24, 25, 26, 27, 28, 29, 30, 31, 32, 33, 34, 35, 36, 37, 38, 39, 40, 41, 42, 43, 44, 45, 46, 47, 48, 49, 50, 51, 52, 53, 54, 55, 56, 57, 58, 59, 60, 61, 62, 63, 64] rfl rfl (by decide) (by decide) (by decide) rfl rfl (Nat.le_of_ble_eq_true rfl) (Nat.le_of_ble_eq_true rfl) (by decide) (by decide) dL_law_12 (fun u2 => ?_)
  refine kn_astore (lv' := [(2, .ref a1), (1, .ref a0), (0, .ref b)]) hc dL_law_15 rfl (by decide) rfl ?_
  refine kn_iconst hc dL_law_16 ?_
  refine kn_istore (lv' := [(3, .int (hv_I 0)), (2, .ref a1), (1, .ref a0), (0, .ref b)]) hc dL_law_17 rfl (by decide) rfl ?_
  rw [hcaX]
  clear hc hcaX
  subst hXe
  intro H locs ls hP hD hS hl
  obtain ⟨ad, had⟩ : ∃ ad : Nat → Nat, ad = fun k => ([a0, u1 0, u1 1, u1 2, u1 9, u1 3, u1 4, u1 5, u1 6, u1 7, u1 8, u1 10, u1 11, u1 12, u1 13, u1 14, u1 15, u1 16, u1 17, u1 18, u1 19, u1 20, u1 21, u1 22, u1 23, u1 24, u1 25, u1 26, u1 27, u1 28, u1 29, u1 30, u1 31, u1 32, u1 33, u1 34, u1 35, u1 36, u1 37, u1 38, u1 39, u1 40, u1 41, u1 42, u1 43, u1 44, u1 45, u1 46, u1 47, u1 48, u1 49, u1 50, u1 51, u1 52, u1 53, u1 54, u1 55, u1 56, u1 57, u1 58, u1 59, u1 60, u1 61, u1 62, u1 63, a1, u2 0, u2 1, u2 2, u2 3, u2 4, u2 5, u2 6, u2 7, u2 8, u2 9, u2 10, u2 11, u2 12, u2 13, u2 14, u2 15, u2 16, u2 17, u2 18, u2 19] : List Nat).getD k 0 := ⟨_, rfl⟩
  have hP9 : va_P (dC, dI) vwCl (hv_w ad ca hv_m0) H := by
    subst had
    exact hP.sub [0, 1, 2, 3, 10, 4, 5, 6, 7, 8, 9, 11, 12, 13, 14, 15, 16, 17, 18, 19, 20, 21, 22, 23, 24, 25, 26, 27, 28, 29, 30, 31, 32, 33, 34, 35, 36, 37, 38, 39, 40, 41, 42, 43, 44, 45, 46, 47, 48, 49, 50, 51, 52, 53, 54, 55, 56, 57, 58, 59, 60, 61, 62, 63, 64, 65, 66, 67, 68, 69, 70, 71, 72, 73, 74, 75, 76, 77, 78, 79, 80, 81, 82, 83, 84, 85] rfl
  have hD9 : va_D (fun q => s.heap.size ≤ q) (hv_w ad ca hv_m0) := by
    subst had
    exact hD.sub [0, 1, 2, 3, 10, 4, 5, 6, 7, 8, 9, 11, 12, 13, 14, 15, 16, 17, 18, 19, 20, 21, 22, 23, 24, 25, 26, 27, 28, 29, 30, 31, 32, 33, 34, 35, 36, 37, 38, 39, 40, 41, 42, 43, 44, 45, 46, 47, 48, 49, 50, 51, 52, 53, 54, 55, 56, 57, 58, 59, 60, 61, 62, 63, 64, 65, 66, 67, 68, 69, 70, 71, 72, 73, 74, 75, 76, 77, 78, 79, 80, 81, 82, 83, 84, 85] (by decide) rfl
  have e0 : ad 0 = a0 := by subst had; rfl
  have e65 : ad 65 = a1 := by subst had; rfl
  clear hP hD
  have hadr : ∀ k, k < hv_N → s.heap.size ≤ ad k := by
    intro k hk
    exact hD9.2 k (ad k, hv_ce ad ca (hv_m0 k) (hv_SH k)) (by simp [hv_w, hk])
  obtain ⟨ak, av, hStr⟩ := hv_Str0 hts hgv hadr
  have hAB : ∀ q, s.heap.size ≤ q → hv_A ad s.heap.size q := fun q h => Or.inr h
  have hD2 : va_D (hv_A ad s.heap.size) (hv_w ad ca hv_m0) := hD9.weaken (fun _ _ _ h => hAB _ h)
  have hS2 : va_S (hv_A ad s.heap.size) s.heap H locs := ⟨hS.1, fun q h1 h2 => hS.2.1 q h1 (fun z => h2 (hAB q z)), fun q hq => hAB _ (hS.2.2 q hq)⟩
  obtain ⟨r, m', hpm⟩ := hpure
  have hc2 : hv_C ((p, l, e, room_1, s, m, #[Value.ref b], below, meth, c), ((dC, dI), ca, ad, ak, av)) cL_law 4 RL ret 2048 600000 7302250 := by
    refine ⟨hx, hb, hml, hown, htb, hlocks, hr, hK, hStr, Nat.le_refl _, Nat.le_of_ble_eq_true rfl, rfl, rfl, ?_⟩
    have h0 : va_D (fun _ => True) (hv_w ad ca hv_m0 ++ hv_ew ca []) := by rw [hv_w_nil]; exact hD9.weaken (fun _ _ _ _ => trivial)
    have h1 := hv_D_of (m' := fun _ _ => 0) h0 (fun _ h => h)
    rw [hv_w_nil] at h1
    exact h1
  have hw2 : hv_LW ((p, l, e, room_1, s, m, #[Value.ref b], below, meth, c), ((dC, dI), ca, ad, ak, av)) b L (fun j => (xs j).toInt) := ⟨⟨xs, hX, fun _ => rfl⟩, hL, hbl, hadr, rfl, rfl⟩
  have hfin := g_law hc2 hw2 600 86 172473 (by decide) (by decide) 0 hv_m0 r m' hpm H locs ls (by rw [hv_w_nil]; exact hP9) (by rw [hv_w_nil]; exact hD2) hS2
  refine hfin ?_
  refine ⟨hl.1, hl.2.1, fun q hq => hl.2.2 q ?_⟩
  have hq : q ∈ [((0 : Nat), Value.ref b), (1, Value.ref (ad 0)), (2, Value.ref (ad 65)), (3, Value.int (hv_I 0))] := hq
  rw [e0, e65] at hq
  simp only [List.mem_cons, List.not_mem_nil, or_false] at hq ⊢
  rcases hq with h | h | h | h
  · exact Or.inr (Or.inr (Or.inr h))
  · exact Or.inr (Or.inr (Or.inl h))
  · exact Or.inr (Or.inl h)
  · exact Or.inl h
