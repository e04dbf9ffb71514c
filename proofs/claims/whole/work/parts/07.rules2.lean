
theorem hv_up_k (m : hMem) (k j : Nat) (v : Int) : hv_up m k j v k = fun q => if q = j then v else m k q := by simp [hv_up]
theorem hv_up_ne (m : hMem) {k k' : Nat} (j : Nat) (v : Int) (h : k' ≠ k) : hv_up m k j v k' = m k' := by simp [hv_up, h]
def hv_FL (own : String) (idx ci j : Nat) : Prop := ∃ (C : String) (T : u_T) (N : Nat), vwCl[ci]? = some (C, T, N) ∧ (∀ w ∈ u_ws C T N, w ∈ hv_tbl) ∧ j < N ∧ Cond.fieldLink own idx (T j).1 (T j).2.1 (T j).2.2.1 ∈ hv_tbl
def hv_FP (own : String) (idx ci j : Nat) (ty : FieldType) : Prop := ∃ (C : String) (T : u_T) (N : Nat) (ty0 : Nat → FieldType), vwCl[ci]? = some (C, T, N) ∧ (∀ w ∈ u_ws C T N, w ∈ hv_tbl) ∧ j < N ∧ Cond.fieldLink own idx (T j).1 (T j).2.1 (T j).2.2.1 ∈ hv_tbl ∧ (∀ k, k < N → parseFieldDescriptor (T k).2.2.1 = some (ty0 k)) ∧ (∀ a, a < N → ∀ b, b < N → a ≠ b → (T a).2.1 ≠ (T b).2.1) ∧ (T j).2.2.2 = false ∧ parseFieldDescriptor (T j).2.2.1 = some ty
def hv_YV (y : MethodName) (cc : ByteArray) (maxL : Nat) (ret : Option FieldType) (n : Nat) : Prop := Cond.code y cc maxL ret ∈ hv_tbl ∧ Cond.instanceMethod y ∈ hv_tbl ∧ Cond.selects y.cls y y ∈ hv_tbl ∧ Cond.initialized y.cls ∈ hv_tbl ∧ (y.cls ≠ "java/lang/invoke/MethodHandle" ∧ y.cls ≠ "java/lang/invoke/VarHandle" ∧ (parseMethodDescriptor y.desc).map (fun d => d.parameters.length) = some n) ∧ maxL ≤ 21
def hv_YS (y : MethodName) (cc : ByteArray) (maxL : Nat) (ret : Option FieldType) (n : Nat) : Prop := Cond.code y cc maxL ret ∈ hv_tbl ∧ Cond.static y ∈ hv_tbl ∧ Cond.initialized y.cls ∈ hv_tbl ∧ (y.cls ≠ "java/lang/invoke/MethodHandle" ∧ y.cls ≠ "java/lang/invoke/VarHandle" ∧ (parseMethodDescriptor y.desc).map (fun d => d.parameters.length) = some n) ∧ maxL ≤ 21
theorem hv_A_up {ad : Nat → Nat} {a b : Nat} (h : a ≤ b) : ∀ q, hv_A ad b q → hv_A ad a q := fun q hq => by
  rcases hq with h1 | h1
  · exact Or.inl h1
  · exact Or.inr (Nat.le_trans h h1)
section HVF
variable {X : hv_X} {cc : ByteArray} {nL : Nat} {own : String} {ret : Option FieldType} {d RC RS cells slots : Nat} {Q : Int → hMem → State → Prop} {t : hRs} {mem : hMem} {E : hv_E} {lv lv' : List (Nat × Value)} {st : List Value} {pc : Nat}

theorem hv_getI (hc : hv_C X cc nL own ret d RC RS) {k j ci idx : Nat} {fs : List (Option Nat)} (hf : hv_FL own idx ci j) (hk : hv_SH k = some (.inr (ci, fs))) (hj : fs[j]? = some none) (hd : decode cc pc = .ok (.getfield idx, 3)) (kk : hv_R X nL cells slots Q t mem E lv (.int (hv_I (mem k j)) :: st) (pc + 3)) : hv_R X nL cells slots Q t mem E lv (.ref (hv_ad X k) :: st) pc := by
  obtain ⟨⟨p, l, e, R, s, m, args, below, meth, c⟩, D, ca, ad, ak, av⟩ := X
  obtain ⟨hx, hb, hml, hown, hts, hlocks, hr, hK, hStr, hfr, hlo, hRC, hRS, hD0⟩ := hc
  intro r m' ht H locs ls hP hD hS hl
  obtain ⟨C, T, N, h1, h2, h3, h4⟩ := hf
  have hv := hv_fv_get (ad := ad) (f := mem k) (i := 0) hj
  simp only [Nat.zero_add] at hv
  exact va_get (D := D) hx hb hts h2 hown hK hP k (hv_w_get ad ca mem E hk) h1 j h3 (hts _ h4) (fun _ h => h) hv hd (kk r m' ht H locs ls hP hD hS hl)

theorem hv_getR (hc : hv_C X cc nL own ret d RC RS) {k j ci idx k2 : Nat} {fs : List (Option Nat)} (hf : hv_FL own idx ci j) (hk : hv_SH k = some (.inr (ci, fs))) (hj : fs[j]? = some (some k2)) (hd : decode cc pc = .ok (.getfield idx, 3)) (kk : hv_R X nL cells slots Q t mem E lv (.ref (hv_ad X k2) :: st) (pc + 3)) : hv_R X nL cells slots Q t mem E lv (.ref (hv_ad X k) :: st) pc := by
  obtain ⟨⟨p, l, e, R, s, m, args, below, meth, c⟩, D, ca, ad, ak, av⟩ := X
  obtain ⟨hx, hb, hml, hown, hts, hlocks, hr, hK, hStr, hfr, hlo, hRC, hRS, hD0⟩ := hc
  intro r m' ht H locs ls hP hD hS hl
  obtain ⟨C, T, N, h1, h2, h3, h4⟩ := hf
  have hv := hv_fv_get (ad := ad) (f := mem k) (i := 0) hj
  exact va_get (D := D) hx hb hts h2 hown hK hP k (hv_w_get ad ca mem E hk) h1 j h3 (hts _ h4) (fun _ h => h) hv hd (kk r m' ht H locs ls hP hD hS hl)

theorem hv_putI (hc : hv_C X cc nL own ret d RC RS) {k j ci idx : Nat} {v : Int} {f : hMem → hRs} {fs : List (Option Nat)} (hf : hv_FP own idx ci j .int) (hk : hv_SH k = some (.inr (ci, fs))) (hj : fs[j]? = some none) (hd : decode cc pc = .ok (.putfield idx, 3)) (kk : ∀ m1 : hMem, hv_R X nL cells slots Q (f m1) m1 E lv st (pc + 3)) : hv_R X nL cells slots Q (hv_put mem k j v f) mem E lv (.int (hv_I v) :: .ref (hv_ad X k) :: st) pc := by
  obtain ⟨⟨p, l, e, R, s, m, args, below, meth, c⟩, D, ca, ad, ak, av⟩ := X
  obtain ⟨hx, hb, hml, hown, hts, hlocks, hr, hK, hStr, hfr, hlo, hRC, hRS, hD0⟩ := hc
  intro r m' ht H locs ls hP hD hS hl
  obtain ⟨C, T, N, ty0, h1, h2, h3, h4, h5, h6, h7, h8⟩ := hf
  have hlen : j < (hv_fv ad (mem k) 0 fs).length := by rw [hv_fv_len]; exact (List.getElem?_eq_some_iff.mp hj).1
  refine va_put (D := D) (v := .int (hv_I v)) hx hb hts h2 ty0 h5 h6 hown hK hP hD hS k (hv_w_get ad ca mem E hk) h1 j h3 (hts _ h4) (fun _ h => h) h7 h8 rfl rfl hlen hd (fun H1 locs1 hP1 hD1 hS1 => ?_)
  have e : hv_ce ad ca (hv_up mem k j v k) (some (.inr (ci, fs))) = .inr (ci, (hv_fv ad (mem k) 0 fs).set j (.int (hv_I v))) := by
    rw [hv_up_k, hv_fv_set hj]
    simp only [Nat.zero_add]
    rfl
  rw [← e, hv_w_set ad ca mem (hv_up mem k j v) E hk (fun j' h => hv_up_ne mem j v h)] at hP1 hD1
  exact kk _ r m' ht H1 locs1 ls hP1 hD1 hS1 hl

theorem hv_putZ (hc : hv_C X cc nL own ret d RC RS) {k j ci idx : Nat} {v : Int} {f : hMem → hRs} {fs : List (Option Nat)} (hf : hv_FP own idx ci j .boolean) (hk : hv_SH k = some (.inr (ci, fs))) (hj : fs[j]? = some none) (hz : v = 0 ∨ v = 1) (hd : decode cc pc = .ok (.putfield idx, 3)) (kk : ∀ m1 : hMem, hv_R X nL cells slots Q (f m1) m1 E lv st (pc + 3)) : hv_R X nL cells slots Q (hv_put mem k j v f) mem E lv (.int (hv_I v) :: .ref (hv_ad X k) :: st) pc := by
  obtain ⟨⟨p, l, e, R, s, m, args, below, meth, c⟩, D, ca, ad, ak, av⟩ := X
  obtain ⟨hx, hb, hml, hown, hts, hlocks, hr, hK, hStr, hfr, hlo, hRC, hRS, hD0⟩ := hc
  intro r m' ht H locs ls hP hD hS hl
  obtain ⟨C, T, N, ty0, h1, h2, h3, h4, h5, h6, h7, h8⟩ := hf
  have hlen : j < (hv_fv ad (mem k) 0 fs).length := by rw [hv_fv_len]; exact (List.getElem?_eq_some_iff.mp hj).1
  refine va_put (D := D) (v := .int (hv_I v)) hx hb hts h2 ty0 h5 h6 hown hK hP hD hS k (hv_w_get ad ca mem E hk) h1 j h3 (hts _ h4) (fun _ h => h) h7 h8 (by rcases hz with rfl | rfl <;> rfl) (by rcases hz with rfl | rfl <;> rfl) hlen hd (fun H1 locs1 hP1 hD1 hS1 => ?_)
  have e : hv_ce ad ca (hv_up mem k j v k) (some (.inr (ci, fs))) = .inr (ci, (hv_fv ad (mem k) 0 fs).set j (.int (hv_I v))) := by
    rw [hv_up_k, hv_fv_set hj]
    simp only [Nat.zero_add]
    rfl
  rw [← e, hv_w_set ad ca mem (hv_up mem k j v) E hk (fun j' h => hv_up_ne mem j v h)] at hP1 hD1
  exact kk _ r m' ht H1 locs1 ls hP1 hD1 hS1 hl

theorem hv_I_nat {i : Int} {n : Nat} (h : 0 ≤ i ∧ i < (n : Int)) (hn : n ≤ 2147483647) : (hv_I i).toNatClampNeg = i.toNat := by
  rw [hv_I]
  exact Int32.toNatClampNeg_ofInt_of_le (by omega) (by omega)
theorem hv_vp_in {i : Int} {n : Nat} (h : 0 ≤ i ∧ i < (n : Int)) (hn : n ≤ 2147483647) : vp_in (hv_I i) n := by
  intro hh
  rw [hv_I_nat h hn] at hh
  rcases hh with hh | hh
  · have h1 : hv_I i < hv_I 0 := hh
    rw [hv_I_lt (by constructor <;> omega) hv_R32_0] at h1
    omega
  · omega

theorem hv_iaload (hc : hv_C X cc nL own ret d RC RS) {k n : Nat} {i : Int} {f : Int → hRs} (hk : hv_SH k = some (.inl n)) (hn : n ≤ 2147483647) (hd : decode cc pc = .ok (.iaload, 1)) (kk : ∀ v : Int, hv_R X nL cells slots Q (f v) mem E lv (.int (hv_I v) :: st) (pc + 1)) : hv_R X nL cells slots Q (hv_ald mem k n i f) mem E lv (.int (hv_I i) :: .ref (hv_ad X k) :: st) pc := by
  obtain ⟨⟨p, l, e, R, s, m, args, below, meth, c⟩, D, ca, ad, ak, av⟩ := X
  obtain ⟨hx, hb, hml, hown, hts, hlocks, hr, hK, hStr, hfr, hlo, hRC, hRS, hD0⟩ := hc
  intro r m' ht H locs ls hP hD hS hl
  unfold hv_ald at ht
  by_cases h : 0 ≤ i ∧ i < (n : Int)
  · rw [if_pos h] at ht
    refine va_iald (D := D) hx hb hK hP k 0 (hv_w_get ad ca mem E hk) rfl (hv_vp_in h hn) hd ?_
    rw [hv_I_nat h hn]
    exact kk _ r m' ht H locs ls hP hD hS hl
  · rw [if_neg h] at ht; cases ht

theorem hv_iastore (hc : hv_C X cc nL own ret d RC RS) {k n : Nat} {i v : Int} {f : hMem → hRs} (hk : hv_SH k = some (.inl n)) (hn : n ≤ 2147483647) (hd : decode cc pc = .ok (.iastore, 1)) (kk : ∀ m1 : hMem, hv_R X nL cells slots Q (f m1) m1 E lv st (pc + 1)) : hv_R X nL cells slots Q (hv_ast mem k n i v f) mem E lv (.int (hv_I v) :: .int (hv_I i) :: .ref (hv_ad X k) :: st) pc := by
  obtain ⟨⟨p, l, e, R, s, m, args, below, meth, c⟩, D, ca, ad, ak, av⟩ := X
  obtain ⟨hx, hb, hml, hown, hts, hlocks, hr, hK, hStr, hfr, hlo, hRC, hRS, hD0⟩ := hc
  intro r m' ht H locs ls hP hD hS hl
  unfold hv_ast at ht
  by_cases h : 0 ≤ i ∧ i < (n : Int)
  · rw [if_pos h] at ht
    refine va_iast (D := D) hx hb hK hP hD hS k 0 (hv_w_get ad ca mem E hk) rfl (hv_vp_in h hn) hd (fun H1 locs1 hP1 hD1 hS1 => ?_)
    have e : hv_ce ad ca (hv_up mem k i.toNat v k) (some (.inl n)) = .inl (ca, (n, .inl (upd (fun j => hv_I (mem k j)) (hv_I i).toNatClampNeg (hv_I v)))) := by
      rw [hv_up_k, hv_I_nat h hn]
      show Sum.inl (ca, (n, Sum.inl _)) = Sum.inl (ca, (n, Sum.inl _))
      congr 4
      funext q
      by_cases hq : q = i.toNat
      · simp [upd, hq]
      · simp [upd, hq]
    rw [← e, hv_w_set ad ca mem (hv_up mem k i.toNat v) E hk (fun j' h => hv_up_ne mem _ v h)] at hP1 hD1
    exact kk _ r m' ht H1 locs1 ls hP1 hD1 hS1 hl
  · rw [if_neg h] at ht; cases ht

theorem hv_alen (hc : hv_C X cc nL own ret d RC RS) {k n : Nat} (hk : hv_SH k = some (.inl n)) (hd : decode cc pc = .ok (.arraylength, 1)) (kk : hv_R X nL cells slots Q t mem E lv (.int (hv_I (n : Int)) :: st) (pc + 1)) : hv_R X nL cells slots Q t mem E lv (.ref (hv_ad X k) :: st) pc := by
  obtain ⟨⟨p, l, e, R, s, m, args, below, meth, c⟩, D, ca, ad, ak, av⟩ := X
  obtain ⟨hx, hb, hml, hown, hts, hlocks, hr, hK, hStr, hfr, hlo, hRC, hRS, hD0⟩ := hc
  intro r m' ht H locs ls hP hD hS hl
  exact va_alen (D := D) hx hb hK hP k 0 (hv_w_get ad ca mem E hk) (ty := .int) rfl (by rw [hv_I, Int32.ofInt_eq_ofNat]) hd (kk r m' ht H locs ls hP hD hS hl)

theorem hv_iret {X : hv_X} (hc : hv_C X cc nL own (some .int) d RC RS) {a : Int} (hd : decode cc pc = .ok (.ireturn, 1)) : hv_R X nL cells slots (hv_QX X 0 cells slots) (hv_ret a mem) mem E lv [.int (hv_I a)] pc := by
  obtain ⟨⟨p, l, e, R, s, m, args, below, meth, c⟩, D, ca, ad, ak, av⟩ := X
  obtain ⟨hx, hb, hml, hown, hts, hlocks, hr, hK, hStr, hfr, hlo, hRC, hRS, hD0⟩ := hc
  intro r m' ht H locs ls hP hD hS hl
  cases ht
  exact W.iret (v := hv_I a) hx hb hr (fun t ht hW => ⟨rfl, by rw [ht]; exact hv_P_base hP, hS.F ht⟩) hS.2.2 hd

theorem hv_zret {X : hv_X} (hc : hv_C X cc nL own (some .boolean) d RC RS) {a : Int} (hd : decode cc pc = .ok (.ireturn, 1)) : hv_R X nL cells slots (hv_QX X 0 cells slots) (hv_zr a mem) mem E lv [.int (hv_I a)] pc := by
  obtain ⟨⟨p, l, e, R, s, m, args, below, meth, c⟩, D, ca, ad, ak, av⟩ := X
  obtain ⟨hx, hb, hml, hown, hts, hlocks, hr, hK, hStr, hfr, hlo, hRC, hRS, hD0⟩ := hc
  intro r m' ht H locs ls hP hD hS hl
  unfold hv_zr at ht
  by_cases h : a = 0 ∨ a = 1
  · rw [if_pos h] at ht
    cases ht
    exact W.zret (v := hv_I a) hx hb hr (by rcases h with rfl | rfl <;> rfl) (fun t ht hW => ⟨rfl, by rw [ht]; exact hv_P_base hP, hS.F ht⟩) hS.2.2 hd
  · rw [if_neg h] at ht; cases ht

theorem hv_vret {X : hv_X} (hc : hv_C X cc nL own none d RC RS) (hd : decode cc pc = .ok (.return_, 1)) : hv_R X nL cells slots (hv_QX X 1 cells slots) (hv_ret 0 mem) mem E lv [] pc := by
  obtain ⟨⟨p, l, e, R, s, m, args, below, meth, c⟩, D, ca, ad, ak, av⟩ := X
  obtain ⟨hx, hb, hml, hown, hts, hlocks, hr, hK, hStr, hfr, hlo, hRC, hRS, hD0⟩ := hc
  intro r m' ht H locs ls hP hD hS hl
  cases ht
  exact W.vret hx hb hr (fun t ht hW => ⟨rfl, by rw [ht]; exact hv_P_base hP, hS.F ht⟩) hS.2.2 hd

theorem hv_aret {X : hv_X} {cl : String} (hc : hv_C X cc nL own (some (.object cl)) d RC RS) {k : Nat} (hd : decode cc pc = .ok (.areturn, 1)) : hv_R X nL cells slots (hv_QX X 2 cells slots) (hv_ret (k : Int) mem) mem E lv [.ref (hv_ad X k)] pc := by
  obtain ⟨⟨p, l, e, R, s, m, args, below, meth, c⟩, D, ca, ad, ak, av⟩ := X
  obtain ⟨hx, hb, hml, hown, hts, hlocks, hr, hK, hStr, hfr, hlo, hRC, hRS, hD0⟩ := hc
  intro r m' ht H locs ls hP hD hS hl
  cases ht
  exact W.aret hx hb hr (Or.inl ⟨_, rfl⟩) (Or.inr ⟨_, rfl⟩) (fun t ht hW => ⟨rfl, by rw [ht]; exact hv_P_base hP, hS.F ht⟩) hS.2.2 hd


/-- behind a call: what came back, beside the rows made anew -/
theorem hv_back {p : Program} {l : Launch} {e : Env} {R : Room} {s : State} {m : MethodId} {args : Array Value} {below : List Frame} {meth : Method} {c : Code} {D : va_G} {ca : ClassId} {ad ak av : Nat → Nat} {ls : Array Slot} {H : Heap} {locs : List Loc} {mc ms rk : Nat} {r0 : Int} {m0 : hMem} {a : Array Value} {st0 rest : List Value} {QQ : State → Prop}
    (hP : va_P D vwCl (hv_w ad ca mem ++ hv_ew ca E) H) (hD : va_D (hv_A ad s.heap.size) (hv_w ad ca mem ++ hv_ew ca E)) (hS : va_S (hv_A ad s.heap.size) s.heap H locs)
    (hrun : va_Run p l e R s m args below meth c H locs cells slots mc ms (F0 m pc ls st0) rest (hv_Q D ca ad H.size rk r0 m0 a) (hv_A ad H.size))
    (kk : ∀ (H1 : Heap) (locs1 : List Loc), va_P D vwCl (hv_w ad ca m0 ++ hv_ew ca E) H1 → va_D (hv_A ad s.heap.size) (hv_w ad ca m0 ++ hv_ew ca E) → va_S (hv_A ad s.heap.size) s.heap H1 locs1 → W p l e R s m args below meth c H1 locs1 (cells + mc) (slots + ms) QQ (F0 m (pc + 3) ls ((hv_rv ad rk r0).toList ++ rest))) :
    W p l e R s m args below meth c H locs cells slots QQ (F0 m pc ls st0) := by
  intro T hT XX
  obtain ⟨v, st₀, t, T', L, h0, X', hL, e1, e2, ⟨hv, hp, hz, hk⟩, st⟩ := hrun T hT XX
  cases hv
  rw [h0] at hz hk
  have hP1 : va_P D vwCl (hv_w ad ca m0 ++ hv_ew ca E) T'.heap := by
    rw [e1]
    refine va_P.app hp (fun k q hq => ?_)
    have hq' : (hv_w ad ca mem ++ hv_ew ca E)[hv_N + k]? = some q := by
      rw [List.getElem?_append_right (by rw [hv_w_len]; omega), hv_w_len, show hv_N + k - hv_N = k by omega]
      exact hq
    have hin := hP _ q hq'
    refine va_at.kept hin (hk q.1 hin.lt (fun hA => ?_))
    rcases hA with ⟨k2, hk2, he⟩ | hA
    · have h2 : (hv_w ad ca mem ++ hv_ew ca E)[k2]? = some (ad k2, hv_ce ad ca (mem k2) (hv_SH k2)) := by
        rw [List.getElem?_append_left (by rw [hv_w_len]; exact hk2)]
        simp [hv_w, hk2]
      have := hD.1 _ _ _ _ hq' h2 he
      omega
    · have := hin.lt
      omega
  have hD1 : va_D (hv_A ad s.heap.size) (hv_w ad ca m0 ++ hv_ew ca E) := hv_D_of hD (fun _ h => h)
  have hS1 : va_S (hv_A ad s.heap.size) s.heap T'.heap (locs ++ L) := by
    refine ⟨Nat.le_trans hS.1 (by rw [e1]; exact hz), fun q h1 h2 => ?_, fun q hq => ?_⟩
    · rw [e1, hk q (Nat.lt_of_lt_of_le h1 hS.1) (fun z => h2 (hv_A_up hS.1 q z))]
      exact hS.2.1 q h1 h2
    · rcases List.mem_append.mp hq with h | h
      · exact hS.2.2 q h
      · exact hv_A_up hS.1 _ (hL q h)
  obtain ⟨t2, a1, b1⟩ := kk T'.heap (locs ++ L) hP1 hD1 hS1 T' rfl X'
  exact ⟨t2, st t2 a1, b1⟩
theorem hv_blind {D : va_G} {ca : ClassId} {ad ak av : Nat → Nat} {sz : Nat} {as : List Value} : FrameBlind (va_Pc as (fun U => U.heap.size = sz ∧ hv_In D ca ad ak av mem U)) := by
  intro a U g mk q
  obtain ⟨q0, q1, qP, qK, qD, qS⟩ := q
  exact ⟨q0, q1, qP, va_K.moved (u := U) (U := U.calling g mk a) (Vm.Alike.refl U.vm) qK, qD, hv_Str_blind qS⟩
theorem hv_into {s U : State} {H : Heap} {locs : List Loc} {D : va_G} {ca : ClassId} {ad ak av : Nat → Nat} (hP : va_P D vwCl (hv_w ad ca mem ++ hv_ew ca E) H) (hD : va_D (hv_A ad s.heap.size) (hv_w ad ca mem ++ hv_ew ca E)) (hS : va_S (hv_A ad s.heap.size) s.heap H locs) (hK : va_K D vwCl [(ca, .int)] s) (hStr : hv_Str ak av (hv_A ad s.heap.size) s) (hU : U.heap = H) (hW : s.WarmedH U.vm) : hv_In D ca ad ak av mem U := by
  refine ⟨by rw [hU]; exact hv_P_base hP, va_K.moved hW.alike hK, (hv_D_base hD).weaken (fun _ _ _ _ => trivial), ?_, fun q hq => vk_R.warm hW (hStr.2.1 q hq), ?_, fun q hq => va_Nw.warmM hW (hStr.2.2.2.1 q hq), ?_⟩
  · rw [hU]
    exact vk_S.moved hW.alike (vk_S.narrow (hStr.1.kept hS.2.1) (hv_A_up hS.1))
  · rw [hU]
    exact va_Z.moved hW.alike (va_Z.narrow (hStr.2.2.1.kept hS.2.1) (hv_A_up hS.1))
  · rw [hU]
    exact va_Zq.moved hW.alike (va_Zq.narrow (hStr.2.2.2.2.kept hS.2.1) (hv_A_up hS.1))

theorem hv_callV (hc : hv_C X cc nL own ret d RC RS) {dd mc ms rk idx n k ci maxL : Nat} {y : MethodName} {ycc : ByteArray} {yret : Option FieldType} {as : (Nat → Nat) → (Nat → Nat) → (Nat → Nat) → List Value} {t0 : hRs} {f : Int → hMem → hRs} {As rest : List Value} {fs : List (Option Nat)}
    (hM : hv_Met dd mc ms rk y ycc maxL yret as mem t0) (hy : hv_YV y ycc maxL yret n) (hl0 : Cond.methodLink own idx y ∈ hv_tbl) (hk : hv_SH k = some (.inr (ci, fs))) (hq : (vwCl[ci]?).map (fun q => q.1) = some y.cls) (has : as (hv_ad X) (hv_ak X) (hv_av X) = .ref (hv_ad X k) :: As) (hn : As.length = n) (hst : st = As.reverse ++ .ref (hv_ad X k) :: rest) (hcat : (rest.map fun v => v.category).sum ≤ 8) (hdd : dd + 1 ≤ d) (hcell : cells + mc ≤ RC) (hslot : slots + ms ≤ RS)
    (hd : decode cc pc = .ok (.invokevirtual idx, 3)) (kk : ∀ (r0 : Int) (m0 : hMem), hv_R X nL (cells + mc) (slots + ms) Q (f r0 m0) m0 E lv ((hv_rv (hv_ad X) rk r0).toList ++ rest) (pc + 3)) : hv_R X nL cells slots Q (hv_b t0 f) mem E lv st pc := by
  obtain ⟨⟨p, l, e, R, s, m, args, below, meth, c⟩, D, ca, ad, ak, av⟩ := X
  obtain ⟨hx, hb, hml, hown, hts, hlocks, hr, hK, hStr, hfr, hlo, hRC, hRS, hD0⟩ := hc
  intro r m' ht H locs ls hP hD hS hl
  cases h0 : t0 with
  | none => rw [h0] at ht; cases ht
  | some q =>
    obtain ⟨r0, m0⟩ := q
    rw [h0] at ht
    have ht : f r0 m0 = some (r, m') := ht
    have hM1 := hM l D ca ad ak av H.size r0 m0 h0
    obtain ⟨y1, y2, y3, y4, y5, y6⟩ := hy
    obtain ⟨cq, hcq, hcn⟩ : ∃ q : vw_C, vwCl[ci]? = some q ∧ q.1 = y.cls := by
      cases hh : vwCl[ci]? with
      | none => rw [hh] at hq; cases hq
      | some q => rw [hh] at hq; exact ⟨q, rfl, Option.some.inj hq⟩
    have hrec : ∃ cell : Cell, H[ad k]? = some cell ∧ cell.vm.isStatics = false ∧ s.vm.findClass y.cls = some cell.cls := by
      have h1 := va_recv hK hP (ci := ci) (q := cq) (q0 := k) hcq (hv_w_get ad ca mem E hk)
      rw [hcn] at h1
      exact h1
    have hst : st = As.reverse ++ Value.ref (ad k) :: rest := hst
    have has : as ad ak av = Value.ref (ad k) :: As := has
    have hroom : (hv_RM dd mc ms).frames + 1 ≤ R.frames ∧ 8 + (maxL + 11) + (hv_RM dd mc ms).locals ≤ R.locals := by
      constructor
      · show dd + 1 ≤ R.frames
        omega
      · show 8 + (maxL + 11) + 40 * dd ≤ R.locals
        omega
    have hcw : CallB R s args own idx y ycc maxL yret (Cond.code y ycc maxL yret :: hv_tbl) (hv_RM dd mc ms) mc ms n := callB_of n hts (hv_goodC y1) rfl rfl rfl (hts _ y4) (hts _ hl0) y5 hroom
    have hrun := va_runV (p := p) (l := l) (e := e) (below := below) (meth := meth) (H := H) (locs := locs) (cells := cells) (slots := slots) (C := y.cls) (b := ad k) (As := As) (rest := rest) (g := F0 m pc ls st) ⟨hx, hb, hml, hown, hts⟩ hM1 ⟨hcw, hts _ y2, hts _ y3⟩ ⟨hv_blind, hrec, fun U hU hW => ⟨by rw [← has], by rw [hU], hv_into hP hD hS hK hStr hU hW⟩⟩ rfl hn hl.1 hst (by show 2 * 0 + _ ≤ 8; omega) hd ⟨by rw [hRC]; exact hcell, by rw [hRS]; exact hslot⟩
    exact hv_back (ak := ak) (av := av) hP hD hS hrun (fun H1 locs1 hP1 hD1 hS1 => kk r0 m0 r m' ht H1 locs1 ls hP1 hD1 hS1 hl)

theorem hv_callS (hc : hv_C X cc nL own ret d RC RS) {dd mc ms rk idx n maxL : Nat} {y : MethodName} {ycc : ByteArray} {yret : Option FieldType} {as : (Nat → Nat) → (Nat → Nat) → (Nat → Nat) → List Value} {t0 : hRs} {f : Int → hMem → hRs} {As rest : List Value}
    (hM : hv_Met dd mc ms rk y ycc maxL yret as mem t0) (hy : hv_YS y ycc maxL yret n) (hl0 : Cond.methodLink own idx y ∈ hv_tbl) (has : as (hv_ad X) (hv_ak X) (hv_av X) = As) (hn : As.length = n) (hst : st = As.reverse ++ rest) (hcat : (rest.map fun v => v.category).sum ≤ 8) (hdd : dd + 1 ≤ d) (hcell : cells + mc ≤ RC) (hslot : slots + ms ≤ RS)
    (hd : decode cc pc = .ok (.invokestatic idx, 3)) (kk : ∀ (r0 : Int) (m0 : hMem), hv_R X nL (cells + mc) (slots + ms) Q (f r0 m0) m0 E lv ((hv_rv (hv_ad X) rk r0).toList ++ rest) (pc + 3)) : hv_R X nL cells slots Q (hv_b t0 f) mem E lv st pc := by
  obtain ⟨⟨p, l, e, R, s, m, args, below, meth, c⟩, D, ca, ad, ak, av⟩ := X
  obtain ⟨hx, hb, hml, hown, hts, hlocks, hr, hK, hStr, hfr, hlo, hRC, hRS, hD0⟩ := hc
  intro r m' ht H locs ls hP hD hS hl
  cases h0 : t0 with
  | none => rw [h0] at ht; cases ht
  | some q =>
    obtain ⟨r0, m0⟩ := q
    rw [h0] at ht
    have ht : f r0 m0 = some (r, m') := ht
    have hM1 := hM l D ca ad ak av H.size r0 m0 h0
    obtain ⟨y1, y2, y4, y5, y6⟩ := hy
    have has : as ad ak av = As := has
    have hroom : (hv_RM dd mc ms).frames + 1 ≤ R.frames ∧ 8 + (maxL + 11) + (hv_RM dd mc ms).locals ≤ R.locals := by
      constructor
      · show dd + 1 ≤ R.frames
        omega
      · show 8 + (maxL + 11) + 40 * dd ≤ R.locals
        omega
    have hcw : CallB R s args own idx y ycc maxL yret (Cond.code y ycc maxL yret :: hv_tbl) (hv_RM dd mc ms) mc ms n := callB_of n hts (hv_goodC y1) rfl rfl rfl (hts _ y4) (hts _ hl0) y5 hroom
    have hrun := va_runS (p := p) (l := l) (e := e) (below := below) (meth := meth) (H := H) (locs := locs) (cells := cells) (slots := slots) (As := As) (rest := rest) (g := F0 m pc ls st) ⟨hx, hb, hml, hown, hts⟩ hM1 ⟨hcw, hts _ y2⟩ ⟨hv_blind, fun U hU hW => ⟨by rw [← has], by rw [hU], hv_into hP hD hS hK hStr hU hW⟩⟩ rfl hn hl.1 hst (by show 2 * 0 + _ ≤ 8; omega) hd ⟨by rw [hRC]; exact hcell, by rw [hRS]; exact hslot⟩
    exact hv_back (ak := ak) (av := av) hP hD hS hrun (fun H1 locs1 hP1 hD1 hS1 => kk r0 m0 r m' ht H1 locs1 ls hP1 hD1 hS1 hl)

theorem hv_callSN (hc : hv_C X cc nL own ret d RC RS) {dd mc ms rk idx n maxL : Nat} {y : MethodName} {ycc : ByteArray} {yret : Option FieldType} {as : (Nat → Nat) → (Nat → Nat) → (Nat → Nat) → List Value} {t0 : hRs} {f : Int → hMem → hRs} {As rest : List Value} {host : String}
    (hM : hv_Met dd mc ms rk y ycc maxL yret as mem t0) (hy : hv_YS y ycc maxL yret n) (hl0 : ((own, idx, y, host) : String × Nat × MethodName × String) ∈ hv_NL) (has : as (hv_ad X) (hv_ak X) (hv_av X) = As) (hn : As.length = n) (hst : st = As.reverse ++ rest) (hcat : (rest.map fun v => v.category).sum ≤ 8) (hdd : dd + 1 ≤ d) (hcell : cells + mc ≤ RC) (hslot : slots + ms ≤ RS)
    (hd : decode cc pc = .ok (.invokestatic idx, 3)) (kk : ∀ (r0 : Int) (m0 : hMem), hv_R X nL (cells + mc) (slots + ms) Q (f r0 m0) m0 E lv ((hv_rv (hv_ad X) rk r0).toList ++ rest) (pc + 3)) : hv_R X nL cells slots Q (hv_b t0 f) mem E lv st pc := by
  obtain ⟨⟨p, l, e, R, s, m, args, below, meth, c⟩, D, ca, ad, ak, av⟩ := X
  obtain ⟨hx, hb, hml, hown, hts, hlocks, hr, hK, hStr, hfr, hlo, hRC, hRS, hD0⟩ := hc
  intro r m' ht H locs ls hP hD hS hl
  cases h0 : t0 with
  | none => rw [h0] at ht; cases ht
  | some q =>
    obtain ⟨r0, m0⟩ := q
    rw [h0] at ht
    have ht : f r0 m0 = some (r, m') := ht
    have hM1 := hM l D ca ad ak av H.size r0 m0 h0
    obtain ⟨y1, y2, y4, y5, y6⟩ := hy
    have has : as ad ak av = As := has
    have hroom : (hv_RM dd mc ms).frames + 1 ≤ R.frames ∧ 8 + (maxL + 11) + (hv_RM dd mc ms).locals ≤ R.locals := by
      constructor
      · show dd + 1 ≤ R.frames
        omega
      · show 8 + (maxL + 11) + 40 * dd ≤ R.locals
        omega
    have hcw : va_CN R s args own idx y host ycc maxL yret (Cond.code y ycc maxL yret :: hv_tbl) (hv_RM dd mc ms) mc ms n := va_cnB n hts (hv_goodC y1) rfl rfl rfl (hStr.2.2.2.1 _ hl0) (hts _ y4) y5 hroom
    have hrun := va_runSN (p := p) (l := l) (e := e) (below := below) (meth := meth) (H := H) (locs := locs) (cells := cells) (slots := slots) (As := As) (rest := rest) (g := F0 m pc ls st) ⟨hx, hb, hml, hown, hts⟩ hM1 ⟨hcw, hts _ y2, trivial⟩ ⟨hv_blind, fun U hU hW => ⟨by rw [← has], by rw [hU], hv_into hP hD hS hK hStr hU hW⟩⟩ rfl hn hl.1 hst (by show 2 * 0 + _ ≤ 8; omega) hd ⟨by rw [hRC]; exact hcell, by rw [hRS]; exact hslot⟩
    exact hv_back (ak := ak) (av := av) hP hD hS hrun (fun H1 locs1 hP1 hD1 hS1 => kk r0 m0 r m' ht H1 locs1 ls hP1 hD1 hS1 hl)

theorem hv_callVN (hc : hv_C X cc nL own ret d RC RS) {dd mc ms rk idx n k ci maxL : Nat} {y : MethodName} {ycc : ByteArray} {yret : Option FieldType} {as : (Nat → Nat) → (Nat → Nat) → (Nat → Nat) → List Value} {t0 : hRs} {f : Int → hMem → hRs} {As rest : List Value} {fs : List (Option Nat)} {host : String}
    (hM : hv_Met dd mc ms rk y ycc maxL yret as mem t0) (hy : hv_YV y ycc maxL yret n) (hl0 : ((own, idx, y, host) : String × Nat × MethodName × String) ∈ hv_NL) (hk : hv_SH k = some (.inr (ci, fs))) (hq : (vwCl[ci]?).map (fun q => q.1) = some y.cls) (has : as (hv_ad X) (hv_ak X) (hv_av X) = .ref (hv_ad X k) :: As) (hn : As.length = n) (hst : st = As.reverse ++ .ref (hv_ad X k) :: rest) (hcat : (rest.map fun v => v.category).sum ≤ 8) (hdd : dd + 1 ≤ d) (hcell : cells + mc ≤ RC) (hslot : slots + ms ≤ RS)
    (hd : decode cc pc = .ok (.invokevirtual idx, 3)) (kk : ∀ (r0 : Int) (m0 : hMem), hv_R X nL (cells + mc) (slots + ms) Q (f r0 m0) m0 E lv ((hv_rv (hv_ad X) rk r0).toList ++ rest) (pc + 3)) : hv_R X nL cells slots Q (hv_b t0 f) mem E lv st pc := by
  obtain ⟨⟨p, l, e, R, s, m, args, below, meth, c⟩, D, ca, ad, ak, av⟩ := X
  obtain ⟨hx, hb, hml, hown, hts, hlocks, hr, hK, hStr, hfr, hlo, hRC, hRS, hD0⟩ := hc
  intro r m' ht H locs ls hP hD hS hl
  cases h0 : t0 with
  | none => rw [h0] at ht; cases ht
  | some q =>
    obtain ⟨r0, m0⟩ := q
    rw [h0] at ht
    have ht : f r0 m0 = some (r, m') := ht
    have hM1 := hM l D ca ad ak av H.size r0 m0 h0
    obtain ⟨y1, y2, y3, y4, y5, y6⟩ := hy
    obtain ⟨cq, hcq, hcn⟩ : ∃ q : vw_C, vwCl[ci]? = some q ∧ q.1 = y.cls := by
      cases hh : vwCl[ci]? with
      | none => rw [hh] at hq; cases hq
      | some q => rw [hh] at hq; exact ⟨q, rfl, Option.some.inj hq⟩
    have hrec : ∃ cell : Cell, H[ad k]? = some cell ∧ cell.vm.isStatics = false ∧ s.vm.findClass y.cls = some cell.cls := by
      have h1 := va_recv hK hP (ci := ci) (q := cq) (q0 := k) hcq (hv_w_get ad ca mem E hk)
      rw [hcn] at h1
      exact h1
    have hst : st = As.reverse ++ Value.ref (ad k) :: rest := hst
    have has : as ad ak av = Value.ref (ad k) :: As := has
    have hroom : (hv_RM dd mc ms).frames + 1 ≤ R.frames ∧ 8 + (maxL + 11) + (hv_RM dd mc ms).locals ≤ R.locals := by
      constructor
      · show dd + 1 ≤ R.frames
        omega
      · show 8 + (maxL + 11) + 40 * dd ≤ R.locals
        omega
    have hcw : va_CN R s args own idx y host ycc maxL yret (Cond.code y ycc maxL yret :: hv_tbl) (hv_RM dd mc ms) mc ms n := va_cnB n hts (hv_goodC y1) rfl rfl rfl (hStr.2.2.2.1 _ hl0) (hts _ y4) y5 hroom
    have hrun := va_runVN (p := p) (l := l) (e := e) (below := below) (meth := meth) (H := H) (locs := locs) (cells := cells) (slots := slots) (C := y.cls) (b := ad k) (As := As) (rest := rest) (g := F0 m pc ls st) ⟨hx, hb, hml, hown, hts⟩ hM1 ⟨hcw, hts _ y2, hts _ y3⟩ ⟨hv_blind, hrec, fun U hU hW => ⟨by rw [← has], by rw [hU], hv_into hP hD hS hK hStr hU hW⟩⟩ rfl hn hl.1 hst (by show 2 * 0 + _ ≤ 8; omega) hd ⟨by rw [hRC]; exact hcell, by rw [hRS]; exact hslot⟩
    exact hv_back (ak := ak) (av := av) hP hD hS hrun (fun H1 locs1 hP1 hD1 hS1 => kk r0 m0 r m' ht H1 locs1 ls hP1 hD1 hS1 hl)

end HVF
