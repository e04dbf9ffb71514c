
/-! the walk, over the flat memory -/
abbrev hv_X : Type := (Program × Launch × Env × Room × State × MethodId × Array Value × List Frame × Method × Code) × (va_G × ClassId × (Nat → Nat) × (Nat → Nat) × (Nat → Nat))
def hv_ad (X : hv_X) : Nat → Nat := X.2.2.2.1
def hv_ak (X : hv_X) : Nat → Nat := X.2.2.2.2.1
def hv_av (X : hv_X) : Nat → Nat := X.2.2.2.2.2
def hv_len : List Nat := [4, 3, 5, 3, 3, 4, 4, 3]
def hv_byt : List (List Int32) := [[112, 108, 97, 110], [108, 97, 119], [104, 97, 110, 100, 115], [110, 101, 119], [112, 117, 116], [106, 111, 105, 110], [116, 97, 107, 101], [102, 111, 114]]
def hv_SC : List (String × Nat × String × Nat) := [(RX4, 75, "plan", 0), (RX4, 81, "law", 1), (RX4, 86, "hands", 2), (RX4, 115, "new", 3), (RX4, 121, "put", 4), (RX4, 123, "join", 5), (RX4, 125, "take", 6), (RX4, 134, "for", 7), (RX11, 136, "plan", 0), (RX11, 142, "law", 1), (RX11, 144, "hands", 2), (RX11, 146, "new", 3), (RX11, 148, "put", 4), (RX11, 150, "join", 5), (RX11, 152, "take", 6), (RX11, 160, "for", 7)]
def hv_Str (ak av : Nat → Nat) (A : Nat → Prop) (U : State) : Prop := vk_S 8 hv_len hv_byt ak av A U U.heap ∧ (∀ q ∈ hv_SC, vk_R q.1 q.2.1 q.2.2.1 (ak q.2.2.2) U) ∧ va_Z "java/lang/String" "COMPACT_STRINGS" "Z" (.int 1) A U U.heap ∧ (∀ q ∈ hv_NL, va_Nw (.methodLinkNest q.1 q.2.1 q.2.2.1 q.2.2.2) U) ∧ va_Zq "jdk/internal/util/Preconditions" "SIOOBE_FORMATTER" "Ljava/util/function/BiFunction;" A U U.heap
def hv_RM (d mc ms : Nat) : Room := { frames := d, cells := mc, slots := ms, locals := 40 * d }
/-- what holds at a method's entry -/
def hv_In (D : va_G) (ca : ClassId) (ad ak av : Nat → Nat) (m : hMem) (U : State) : Prop :=
  va_P D vwCl (hv_w ad ca m) U.heap ∧ va_K D vwCl [(ca, .int)] U ∧ va_D (fun _ => True) (hv_w ad ca m) ∧ hv_Str ak av (hv_A ad U.heap.size) U
def hv_rv (ad : Nat → Nat) (rk : Nat) (r : Int) : Option Value := match rk with
  | 0 => some (.int (hv_I r))
  | 1 => none
  | _ => some (.ref (ad r.toNat))
def hv_Q (D : va_G) (ca : ClassId) (ad : Nat → Nat) (sz rk : Nat) (r : Int) (m : hMem) : Array Value → State → Outcome → State → Prop := fun _ st oc t =>
  oc = .returned (hv_rv ad rk r) ∧ va_P D vwCl (hv_w ad ca m) t.heap ∧ va_F (hv_A ad sz) st t
/-- a method's contract: where its function answers, the method does just that -/
def hv_Met (d mc ms rk : Nat) (y : MethodName) (cc : ByteArray) (maxL : Nat) (ret : Option FieldType) (as : (Nat → Nat) → (Nat → Nat) → (Nat → Nat) → List Value) (m : hMem) (t : hRs) : Prop :=
  ∀ (l : Launch) (D : va_G) (ca : ClassId) (ad ak av : Nat → Nat) (sz : Nat) (r : Int) (m' : hMem), t = some (r, m') →
    Met l y (Cond.code y cc maxL ret :: hv_tbl) (hv_RM d mc ms) (va_Pc (as ad ak av) (fun U => U.heap.size = sz ∧ hv_In D ca ad ak av m U)) (hv_Q D ca ad sz rk r m') mc ms (hv_A ad sz)
/-- what stands throughout a method's walk -/
def hv_C (X : hv_X) (cc : ByteArray) (nL : Nat) (own : String) (ret : Option FieldType) (d RC RS : Nat) : Prop := match X with
  | ((p, _, _, R, s, m, args, _, meth, c), (D, ca, ad, ak, av)) =>
    p.tables.exec = Jvm.exec ∧ c.code = cc ∧ c.maxLocals = nL ∧ s.vm.findClass own = some m.cls ∧ (∀ w ∈ hv_tbl, w.before args s = true) ∧ meth.locks = false ∧ meth.sig.returnType = ret ∧ va_K D vwCl [(ca, .int)] s ∧ hv_Str ak av (hv_A ad s.heap.size) s ∧ d ≤ R.frames ∧ 40 * d ≤ R.locals ∧ R.cells = RC ∧ R.slots = RS ∧ va_D (fun _ => True) (hv_w ad ca (fun _ _ => 0))
def hv_G (X : hv_X) (nL cells slots : Nat) (Q : State → Prop) (mem : hMem) (E : hv_E) (lv : List (Nat × Value)) (st : List Value) (pc : Nat) : Prop := match X with
  | ((p, l, e, R, s, m, args, below, meth, c), (D, ca, ad, _, _)) =>
    ∀ (H : Heap) (locs : List Loc) (ls : Array Slot), va_P D vwCl (hv_w ad ca mem ++ hv_ew ca E) H → va_D (hv_A ad s.heap.size) (hv_w ad ca mem ++ hv_ew ca E) → va_S (hv_A ad s.heap.size) s.heap H locs → lv_has ls nL lv → W p l e R s m args below meth c H locs cells slots Q (F0 m pc ls st)
def hv_R (X : hv_X) (nL cells slots : Nat) (Q : Int → hMem → State → Prop) (t : hRs) (mem : hMem) (E : hv_E) (lv : List (Nat × Value)) (st : List Value) (pc : Nat) : Prop :=
  ∀ (r : Int) (m' : hMem), t = some (r, m') → hv_G X nL cells slots (Q r m') mem E lv st pc
def hv_QX (X : hv_X) (rk mc ms : Nat) : Int → hMem → State → Prop := match X with
  | ((_, _, _, _, s, _, args, below, _, _), (D, ca, ad, _, _)) => fun r m => MQ below (hv_Q D ca ad s.heap.size rk r m) args s mc ms (hv_A ad s.heap.size)


theorem hv_goodIn : GoodIn hv_tbl hv_tbl := fun w hw => ⟨hw, good_of_word (tw_good w hw)⟩


theorem hv_goodC {y : MethodName} {cc : ByteArray} {n : Nat} {ret : Option FieldType} (h : Cond.code y cc n ret ∈ hv_tbl) : GoodIn hv_tbl (Cond.code y cc n ret :: hv_tbl) := fun w hw => by
  rcases List.mem_cons.mp hw with rfl | hw
  · exact hv_goodIn _ h
  · exact hv_goodIn _ hw
theorem hv_D_of {ad : Nat → Nat} {ca : ClassId} {m m' : hMem} {A A' : Nat → Prop} {E : hv_E} (h : va_D A (hv_w ad ca m ++ hv_ew ca E)) (hA : ∀ q, A q → A' q) : va_D A' (hv_w ad ca m' ++ hv_ew ca E) := by
  have key : ∀ (k : Nat) (q : Nat × va_E), (hv_w ad ca m' ++ hv_ew ca E)[k]? = some q → ∃ q0, (hv_w ad ca m ++ hv_ew ca E)[k]? = some q0 ∧ q0.1 = q.1 := by
    intro k q hk
    by_cases hl : k < hv_N
    · rw [List.getElem?_append_left (by rw [hv_w_len]; exact hl)] at hk ⊢
      obtain ⟨-, h2⟩ := hv_w_adr hk
      refine ⟨(ad k, hv_ce ad ca (m k) (hv_SH k)), by simp [hv_w, hl], h2.symm⟩
    · rw [List.getElem?_append_right (by rw [hv_w_len]; omega)] at hk ⊢
      rw [hv_w_len] at hk ⊢
      exact ⟨q, hk, rfl⟩
  refine ⟨fun i j x y hi hj hxy => ?_, fun k q hk => ?_⟩
  · obtain ⟨x0, h1, h2⟩ := key i x hi
    obtain ⟨y0, h3, h4⟩ := key j y hj
    exact h.1 i j x0 y0 h1 h3 (h2.trans (hxy.trans h4.symm))
  · obtain ⟨q0, h1, h2⟩ := key k q hk
    rw [← h2]
    exact hA _ (h.2 k q0 h1)
theorem hv_D_self {ad : Nat → Nat} {ca : ClassId} {m : hMem} {A : Nat → Prop} {sz : Nat} (h : va_D A (hv_w ad ca m)) : va_D (hv_A ad sz) (hv_w ad ca m) := by
  refine ⟨h.1, fun k q hk => ?_⟩
  obtain ⟨h1, h2⟩ := hv_w_adr hk
  exact Or.inl ⟨k, h1, h2⟩
theorem hv_w_nil (ad : Nat → Nat) (ca : ClassId) (m : hMem) : hv_w ad ca m ++ hv_ew ca [] = hv_w ad ca m := by simp [hv_ew]
theorem hv_P_base {D : va_G} {ad : Nat → Nat} {ca : ClassId} {m : hMem} {E : hv_E} {H : Heap} (h : va_P D vwCl (hv_w ad ca m ++ hv_ew ca E) H) : va_P D vwCl (hv_w ad ca m) H := by
  intro k q hk
  have hl := (List.getElem?_eq_some_iff.mp hk).1
  exact h k q (by rw [List.getElem?_append_left hl]; exact hk)
theorem hv_D_base {ad : Nat → Nat} {ca : ClassId} {m : hMem} {E : hv_E} {A : Nat → Prop} (h : va_D A (hv_w ad ca m ++ hv_ew ca E)) : va_D A (hv_w ad ca m) := by
  have key : ∀ (k : Nat) (q : Nat × va_E), (hv_w ad ca m)[k]? = some q → (hv_w ad ca m ++ hv_ew ca E)[k]? = some q := by
    intro k q hk
    have hl := (List.getElem?_eq_some_iff.mp hk).1
    rw [List.getElem?_append_left hl]; exact hk
  exact ⟨fun i j x y hi hj e => h.1 i j x y (key i x hi) (key j y hj) e, fun k q hk => h.2 k q (key k q hk)⟩
theorem hv_Str_blind {ak av : Nat → Nat} {A : Nat → Prop} {U : State} {g : JFrame} {mk : MethodId} {a : Array Value} (h : hv_Str ak av A U) : hv_Str ak av A (U.calling g mk a) := by
  obtain ⟨h1, h2, h3, h4, h5⟩ := h
  exact ⟨vk_S.moved (u := U) (U := U.calling g mk a) (Vm.Alike.refl U.vm) h1, fun q hq => vk_R.same (u := U) (U := U.calling g mk a) rfl (h2 q hq), va_Z.moved (u := U) (U := U.calling g mk a) (Vm.Alike.refl U.vm) h3, fun q hq => va_Nw.same (u := U) (U := U.calling g mk a) rfl rfl (h4 q hq), va_Zq.moved (u := U) (U := U.calling g mk a) (Vm.Alike.refl U.vm) h5⟩
/-- from a walk of the body to the contract -/
theorem hv_start {d mc ms rk : Nat} {y : MethodName} {cc : ByteArray} {maxL : Nat} {ret : Option FieldType} {as : (Nat → Nat) → (Nat → Nat) → (Nat → Nat) → List Value} {m : hMem} {t : hRs} (hy : plainFor y = true)
    (hlen : ∀ ad ak av, (lg_sl (as ad ak av)).length ≤ maxL)
    (body : ∀ X : hv_X, hv_C X cc maxL y.cls ret d mc ms → hv_R X maxL 0 0 (hv_QX X rk mc ms) t m [] (lv_args 0 (as (hv_ad X) (hv_ak X) (hv_av X))) [] 0) : hv_Met d mc ms rk y cc maxL ret as m t := by
  intro l D ca ad ak av sz r m' ht
  refine va_MetF (cc := cc) (maxL := maxL) (ret := ret) hy rfl ?_
  intro p e s mt args below meth c s₁ B hml hv
  obtain ⟨rfl, hsz, hP, hK, hD0, hStr⟩ := hv
  have hts := atoms_spec (ws := Cond.code y cc maxL ret :: hv_tbl) B.pre
  have hown : s.vm.findClass y.cls = some mt.cls := findClass_of_methodNamed B.named
  subst hsz
  have hb := body ((p, l, e, (headSpec (Cond.code y cc maxL ret :: hv_tbl) (hv_RM d mc ms)).room, s, mt, (as ad ak av).toArray, below, meth, c), (D, ca, ad, ak, av)) ⟨B.exec, B.bytes, hml, hown, fun w hw => hts w (List.mem_cons_of_mem _ hw), B.notSynchronized, B.returns, hK, hStr, Nat.le_refl _, Nat.le_refl _, rfl, rfl, by
    have h0 : va_D (fun _ => True) (hv_w ad ca m ++ hv_ew ca []) := by rw [hv_w_nil]; exact hD0
    have h1 := hv_D_of (m' := fun _ _ => 0) h0 (fun _ h => h)
    rw [hv_w_nil] at h1
    exact h1⟩ r m' ht
  have hl := lv_entry (as ad ak av) (n := maxL) (hlen ad ak av)
  rw [lg_entry_eq]
  exact hb s.heap [] _ (by rw [hv_w_nil]; exact hP) (by rw [hv_w_nil]; exact hv_D_self hD0) va_S.rf hl


section HVR
variable {X : hv_X} {cc : ByteArray} {nL : Nat} {own : String} {ret : Option FieldType} {d RC RS cells slots : Nat} {Q : Int → hMem → State → Prop} {t : hRs} {mem : hMem} {E : hv_E} {lv lv' : List (Nat × Value)} {st : List Value} {pc : Nat}
theorem hv_sub (hl : ∀ q ∈ lv', q ∈ lv) (k : hv_R X nL cells slots Q t mem E lv' st pc) : hv_R X nL cells slots Q t mem E lv st pc := by
  obtain ⟨⟨p, l, e, R, s, m, args, below, meth, c⟩, D, ca, ad, ak, av⟩ := X
  intro r m' ht H locs ls hP hD hS hv
  exact k r m' ht H locs ls hP hD hS ⟨hv.1, hv.2.1, fun q hq => hv.2.2 q (hl q hq)⟩
theorem hv_get_mem {i : Nat} {v : Value} {k : Nat} (h : lv[k]? = some (i, v)) : (i, v) ∈ lv := List.mem_of_getElem? h

theorem hv_iload_n (hc : hv_C X cc nL own ret d RC RS) {k : Fin 4} {i : Nat} {x : Int32} (hd : decode cc pc = .ok (.iload_n k, 1)) (hi : (k : Nat) = i) (h : (i, Value.int x) ∈ lv) (kk : hv_R X nL cells slots Q t mem E lv (.int x :: st) (pc + 1)) : hv_R X nL cells slots Q t mem E lv st pc := by
  obtain ⟨⟨p, l, e, R, s, m, args, below, meth, c⟩, D, ca, ad, ak, av⟩ := X
  obtain ⟨hx, hb, hml, hown, hts, hlocks, hr, hK, hStr, hfr, hlo, hRC, hRS, hD0⟩ := hc
  intro r m' ht H locs ls hP hD hS hl
  exact lv_iload_n hx hb hd hi (hl.2.2 _ h) (kk r m' ht H locs ls hP hD hS hl)

theorem hv_aload_n (hc : hv_C X cc nL own ret d RC RS) {k : Fin 4} {i : Nat} {x : Nat} (hd : decode cc pc = .ok (.aload_n k, 1)) (hi : (k : Nat) = i) (h : (i, Value.ref x) ∈ lv) (kk : hv_R X nL cells slots Q t mem E lv (.ref x :: st) (pc + 1)) : hv_R X nL cells slots Q t mem E lv st pc := by
  obtain ⟨⟨p, l, e, R, s, m, args, below, meth, c⟩, D, ca, ad, ak, av⟩ := X
  obtain ⟨hx, hb, hml, hown, hts, hlocks, hr, hK, hStr, hfr, hlo, hRC, hRS, hD0⟩ := hc
  intro r m' ht H locs ls hP hD hS hl
  exact lv_aload_n hx hb hd hi (hl.2.2 _ h) (kk r m' ht H locs ls hP hD hS hl)

theorem hv_iload (hc : hv_C X cc nL own ret d RC RS) {i : Nat} {x : Int32} (hd : decode cc pc = .ok (.iload i, 2)) (h : (i, Value.int x) ∈ lv) (kk : hv_R X nL cells slots Q t mem E lv (.int x :: st) (pc + 2)) : hv_R X nL cells slots Q t mem E lv st pc := by
  obtain ⟨⟨p, l, e, R, s, m, args, below, meth, c⟩, D, ca, ad, ak, av⟩ := X
  obtain ⟨hx, hb, hml, hown, hts, hlocks, hr, hK, hStr, hfr, hlo, hRC, hRS, hD0⟩ := hc
  intro r m' ht H locs ls hP hD hS hl
  exact lv_iload hx hb hd (hl.2.2 _ h) (kk r m' ht H locs ls hP hD hS hl)

theorem hv_aload (hc : hv_C X cc nL own ret d RC RS) {i : Nat} {x : Nat} (hd : decode cc pc = .ok (.aload i, 2)) (h : (i, Value.ref x) ∈ lv) (kk : hv_R X nL cells slots Q t mem E lv (.ref x :: st) (pc + 2)) : hv_R X nL cells slots Q t mem E lv st pc := by
  obtain ⟨⟨p, l, e, R, s, m, args, below, meth, c⟩, D, ca, ad, ak, av⟩ := X
  obtain ⟨hx, hb, hml, hown, hts, hlocks, hr, hK, hStr, hfr, hlo, hRC, hRS, hD0⟩ := hc
  intro r m' ht H locs ls hP hD hS hl
  exact lv_aload hx hb hd (hl.2.2 _ h) (kk r m' ht H locs ls hP hD hS hl)

theorem hv_istore_n (hc : hv_C X cc nL own ret d RC RS) {k : Fin 4} {i : Nat} {x : Int32} (hd : decode cc pc = .ok (.istore_n k, 1)) (hi : (k : Nat) = i) (hn : i < nL) (h : (i, Value.int x) :: lv.filter (fun q => !(q.1 == i) && !(q.1 + 1 == i && q.2.category == 2)) = lv') (kk : hv_R X nL cells slots Q t mem E lv' st (pc + 1)) : hv_R X nL cells slots Q t mem E lv (.int x :: st) pc := by
  obtain ⟨⟨p, l, e, R, s, m, args, below, meth, c⟩, D, ca, ad, ak, av⟩ := X
  obtain ⟨hx, hb, hml, hown, hts, hlocks, hr, hK, hStr, hfr, hlo, hRC, hRS, hD0⟩ := hc
  intro r m' ht H locs ls hP hD hS hl
  exact lv_istore_n hx hb hd hi hl hn h (fun ls' hl' => kk r m' ht H locs ls' hP hD hS hl')

theorem hv_astore_n (hc : hv_C X cc nL own ret d RC RS) {k : Fin 4} {i : Nat} {x : Nat} (hd : decode cc pc = .ok (.astore_n k, 1)) (hi : (k : Nat) = i) (hn : i < nL) (h : (i, Value.ref x) :: lv.filter (fun q => !(q.1 == i) && !(q.1 + 1 == i && q.2.category == 2)) = lv') (kk : hv_R X nL cells slots Q t mem E lv' st (pc + 1)) : hv_R X nL cells slots Q t mem E lv (.ref x :: st) pc := by
  obtain ⟨⟨p, l, e, R, s, m, args, below, meth, c⟩, D, ca, ad, ak, av⟩ := X
  obtain ⟨hx, hb, hml, hown, hts, hlocks, hr, hK, hStr, hfr, hlo, hRC, hRS, hD0⟩ := hc
  intro r m' ht H locs ls hP hD hS hl
  exact lv_astore_n hx hb hd hi hl hn h (fun ls' hl' => kk r m' ht H locs ls' hP hD hS hl')

theorem hv_istore (hc : hv_C X cc nL own ret d RC RS) {i : Nat} {x : Int32} (hd : decode cc pc = .ok (.istore i, 2)) (hn : i < nL) (h : (i, Value.int x) :: lv.filter (fun q => !(q.1 == i) && !(q.1 + 1 == i && q.2.category == 2)) = lv') (kk : hv_R X nL cells slots Q t mem E lv' st (pc + 2)) : hv_R X nL cells slots Q t mem E lv (.int x :: st) pc := by
  obtain ⟨⟨p, l, e, R, s, m, args, below, meth, c⟩, D, ca, ad, ak, av⟩ := X
  obtain ⟨hx, hb, hml, hown, hts, hlocks, hr, hK, hStr, hfr, hlo, hRC, hRS, hD0⟩ := hc
  intro r m' ht H locs ls hP hD hS hl
  exact lv_istore hx hb hd hl hn h (fun ls' hl' => kk r m' ht H locs ls' hP hD hS hl')

theorem hv_astore (hc : hv_C X cc nL own ret d RC RS) {i : Nat} {x : Nat} (hd : decode cc pc = .ok (.astore i, 2)) (hn : i < nL) (h : (i, Value.ref x) :: lv.filter (fun q => !(q.1 == i) && !(q.1 + 1 == i && q.2.category == 2)) = lv') (kk : hv_R X nL cells slots Q t mem E lv' st (pc + 2)) : hv_R X nL cells slots Q t mem E lv (.ref x :: st) pc := by
  obtain ⟨⟨p, l, e, R, s, m, args, below, meth, c⟩, D, ca, ad, ak, av⟩ := X
  obtain ⟨hx, hb, hml, hown, hts, hlocks, hr, hK, hStr, hfr, hlo, hRC, hRS, hD0⟩ := hc
  intro r m' ht H locs ls hP hD hS hl
  exact lv_astore hx hb hd hl hn h (fun ls' hl' => kk r m' ht H locs ls' hP hD hS hl')

theorem hv_iinc (hc : hv_C X cc nL own ret d RC RS) {i : Nat} {n a : Int} (hd : decode cc pc = .ok (.iinc i n, 3)) (hn : i < nL) (hm : (i, Value.int (hv_I a)) ∈ lv) (h : (i, Value.int (hv_I (a + n))) :: lv.filter (fun q => !(q.1 == i) && !(q.1 + 1 == i && q.2.category == 2)) = lv') (kk : hv_R X nL cells slots Q t mem E lv' st (pc + 3)) : hv_R X nL cells slots Q t mem E lv st pc := by
  obtain ⟨⟨p, l, e, R, s, m, args, below, meth, c⟩, D, ca, ad, ak, av⟩ := X
  obtain ⟨hx, hb, hml, hown, hts, hlocks, hr, hK, hStr, hfr, hlo, hRC, hRS, hD0⟩ := hc
  intro r m' ht H locs ls hP hD hS hl
  obtain ⟨k, hk⟩ := List.getElem?_of_mem hm
  exact lv_iinc (v := hv_I (a + n)) hx hb hd hl hk (by simp [hv_I]) hn h (fun ls' hl' => kk r m' ht H locs ls' hP hD hS hl')

theorem hv_iconst (hc : hv_C X cc nL own ret d RC RS) {n : Int} (hd : decode cc pc = .ok (.iconst n, 1)) (kk : hv_R X nL cells slots Q t mem E lv (.int (hv_I n) :: st) (pc + 1)) : hv_R X nL cells slots Q t mem E lv st pc := by
  obtain ⟨⟨p, l, e, R, s, m, args, below, meth, c⟩, D, ca, ad, ak, av⟩ := X
  obtain ⟨hx, hb, hml, hown, hts, hlocks, hr, hK, hStr, hfr, hlo, hRC, hRS, hD0⟩ := hc
  intro r m' ht H locs ls hP hD hS hl
  exact lv_iconst hx hb hd rfl (kk r m' ht H locs ls hP hD hS hl)

theorem hv_bipush (hc : hv_C X cc nL own ret d RC RS) {n : Int} (hd : decode cc pc = .ok (.bipush n, 2)) (hv : (Int8.ofInt n).toInt32 = hv_I n) (kk : hv_R X nL cells slots Q t mem E lv (.int (hv_I n) :: st) (pc + 2)) : hv_R X nL cells slots Q t mem E lv st pc := by
  obtain ⟨⟨p, l, e, R, s, m, args, below, meth, c⟩, D, ca, ad, ak, av⟩ := X
  obtain ⟨hx, hb, hml, hown, hts, hlocks, hr, hK, hStr, hfr, hlo, hRC, hRS, hD0⟩ := hc
  intro r m' ht H locs ls hP hD hS hl
  exact lv_bipush hx hb hd hv (kk r m' ht H locs ls hP hD hS hl)

theorem hv_sipush (hc : hv_C X cc nL own ret d RC RS) {n : Int} (hd : decode cc pc = .ok (.sipush n, 3)) (hv : (Int16.ofInt n).toInt32 = hv_I n) (kk : hv_R X nL cells slots Q t mem E lv (.int (hv_I n) :: st) (pc + 3)) : hv_R X nL cells slots Q t mem E lv st pc := by
  obtain ⟨⟨p, l, e, R, s, m, args, below, meth, c⟩, D, ca, ad, ak, av⟩ := X
  obtain ⟨hx, hb, hml, hown, hts, hlocks, hr, hK, hStr, hfr, hlo, hRC, hRS, hD0⟩ := hc
  intro r m' ht H locs ls hP hD hS hl
  exact lv_sipush hx hb hd hv (kk r m' ht H locs ls hP hD hS hl)

theorem hv_ldc (hc : hv_C X cc nL own ret d RC RS) {n : Int} {v : Int32} {index : Nat} (hl0 : Cond.constant own index v ∈ hv_tbl) (hv : v = hv_I n) (hd : decode cc pc = .ok (.ldc index, 2)) (kk : hv_R X nL cells slots Q t mem E lv (.int (hv_I n) :: st) (pc + 2)) : hv_R X nL cells slots Q t mem E lv st pc := by
  obtain ⟨⟨p, l, e, R, s, m, args, below, meth, c⟩, D, ca, ad, ak, av⟩ := X
  obtain ⟨hx, hb, hml, hown, hts, hlocks, hr, hK, hStr, hfr, hlo, hRC, hRS, hD0⟩ := hc
  subst hv
  intro r m' ht H locs ls hP hD hS hl
  exact lv_ldc hx hb hown (hts _ hl0) hd (kk r m' ht H locs ls hP hD hS hl)

theorem hv_dup (hc : hv_C X cc nL own ret d RC RS) {v : Value} (hd : decode cc pc = .ok (.dup, 1)) (hv : v.category = 1) (kk : hv_R X nL cells slots Q t mem E lv (v :: v :: st) (pc + 1)) : hv_R X nL cells slots Q t mem E lv (v :: st) pc := by
  obtain ⟨⟨p, l, e, R, s, m, args, below, meth, c⟩, D, ca, ad, ak, av⟩ := X
  obtain ⟨hx, hb, hml, hown, hts, hlocks, hr, hK, hStr, hfr, hlo, hRC, hRS, hD0⟩ := hc
  intro r m' ht H locs ls hP hD hS hl
  exact lv_dup hx hb hd hv (kk r m' ht H locs ls hP hD hS hl)

theorem hv_dup2 (hc : hv_C X cc nL own ret d RC RS) {v u : Value} (hd : decode cc pc = .ok (.dup2, 1)) (hv : v.category = 1) (hu : u.category = 1) (kk : hv_R X nL cells slots Q t mem E lv (v :: u :: v :: u :: st) (pc + 1)) : hv_R X nL cells slots Q t mem E lv (v :: u :: st) pc := by
  obtain ⟨⟨p, l, e, R, s, m, args, below, meth, c⟩, D, ca, ad, ak, av⟩ := X
  obtain ⟨hx, hb, hml, hown, hts, hlocks, hr, hK, hStr, hfr, hlo, hRC, hRS, hD0⟩ := hc
  intro r m' ht H locs ls hP hD hS hl
  exact lv_dup2_11 hx hb hd hv hu (kk r m' ht H locs ls hP hD hS hl)

theorem hv_pop (hc : hv_C X cc nL own ret d RC RS) {v : Value} (hd : decode cc pc = .ok (.pop, 1)) (hv : v.category = 1) (kk : hv_R X nL cells slots Q t mem E lv st (pc + 1)) : hv_R X nL cells slots Q t mem E lv (v :: st) pc := by
  obtain ⟨⟨p, l, e, R, s, m, args, below, meth, c⟩, D, ca, ad, ak, av⟩ := X
  obtain ⟨hx, hb, hml, hown, hts, hlocks, hr, hK, hStr, hfr, hlo, hRC, hRS, hD0⟩ := hc
  intro r m' ht H locs ls hP hD hS hl
  exact lv_pop hx hb hd hv (kk r m' ht H locs ls hP hD hS hl)

theorem hv_iadd (hc : hv_C X cc nL own ret d RC RS) {a b : Int} (hd : decode cc pc = .ok (.iadd, 1)) (kk : hv_R X nL cells slots Q t mem E lv (.int (hv_I (a + b)) :: st) (pc + 1)) : hv_R X nL cells slots Q t mem E lv (.int (hv_I b) :: .int (hv_I a) :: st) pc := by
  obtain ⟨⟨p, l, e, R, s, m, args, below, meth, c⟩, D, ca, ad, ak, av⟩ := X
  obtain ⟨hx, hb, hml, hown, hts, hlocks, hr, hK, hStr, hfr, hlo, hRC, hRS, hD0⟩ := hc
  intro r m' ht H locs ls hP hD hS hl
  refine lv_iadd hx hb hd ?_
  rw [show hv_I a + hv_I b = hv_I (a + b) from (Int32.ofInt_add a b).symm]
  exact kk r m' ht H locs ls hP hD hS hl

theorem hv_isub (hc : hv_C X cc nL own ret d RC RS) {a b : Int} (hd : decode cc pc = .ok (.isub, 1)) (kk : hv_R X nL cells slots Q t mem E lv (.int (hv_I (a - b)) :: st) (pc + 1)) : hv_R X nL cells slots Q t mem E lv (.int (hv_I b) :: .int (hv_I a) :: st) pc := by
  obtain ⟨⟨p, l, e, R, s, m, args, below, meth, c⟩, D, ca, ad, ak, av⟩ := X
  obtain ⟨hx, hb, hml, hown, hts, hlocks, hr, hK, hStr, hfr, hlo, hRC, hRS, hD0⟩ := hc
  intro r m' ht H locs ls hP hD hS hl
  refine lv_isub hx hb hd ?_
  rw [show hv_I a - hv_I b = hv_I (a - b) from (Int32.ofInt_sub a b).symm]
  exact kk r m' ht H locs ls hP hD hS hl

theorem hv_imul (hc : hv_C X cc nL own ret d RC RS) {a b : Int} (hd : decode cc pc = .ok (.imul, 1)) (kk : hv_R X nL cells slots Q t mem E lv (.int (hv_I (a * b)) :: st) (pc + 1)) : hv_R X nL cells slots Q t mem E lv (.int (hv_I b) :: .int (hv_I a) :: st) pc := by
  obtain ⟨⟨p, l, e, R, s, m, args, below, meth, c⟩, D, ca, ad, ak, av⟩ := X
  obtain ⟨hx, hb, hml, hown, hts, hlocks, hr, hK, hStr, hfr, hlo, hRC, hRS, hD0⟩ := hc
  intro r m' ht H locs ls hP hD hS hl
  refine lv_imul hx hb hd ?_
  rw [show hv_I a * hv_I b = hv_I (a * b) from (Int32.ofInt_mul a b).symm]
  exact kk r m' ht H locs ls hP hD hS hl

theorem hv_iand (hc : hv_C X cc nL own ret d RC RS) {a b : Int} (hd : decode cc pc = .ok (.iand, 1)) (kk : hv_R X nL cells slots Q t mem E lv (.int (hv_I (hv_and a b)) :: st) (pc + 1)) : hv_R X nL cells slots Q t mem E lv (.int (hv_I b) :: .int (hv_I a) :: st) pc := by
  obtain ⟨⟨p, l, e, R, s, m, args, below, meth, c⟩, D, ca, ad, ak, av⟩ := X
  obtain ⟨hx, hb, hml, hown, hts, hlocks, hr, hK, hStr, hfr, hlo, hRC, hRS, hD0⟩ := hc
  intro r m' ht H locs ls hP hD hS hl
  refine lv_iand hx hb hd ?_
  have h := kk r m' ht H locs ls hP hD hS hl
  rw [hv_I, hv_and, Int32.ofInt_toInt] at h
  exact h

theorem hv_ior (hc : hv_C X cc nL own ret d RC RS) {a b : Int} (hd : decode cc pc = .ok (.ior, 1)) (kk : hv_R X nL cells slots Q t mem E lv (.int (hv_I (hv_or a b)) :: st) (pc + 1)) : hv_R X nL cells slots Q t mem E lv (.int (hv_I b) :: .int (hv_I a) :: st) pc := by
  obtain ⟨⟨p, l, e, R, s, m, args, below, meth, c⟩, D, ca, ad, ak, av⟩ := X
  obtain ⟨hx, hb, hml, hown, hts, hlocks, hr, hK, hStr, hfr, hlo, hRC, hRS, hD0⟩ := hc
  intro r m' ht H locs ls hP hD hS hl
  refine lv_ior hx hb hd ?_
  have h := kk r m' ht H locs ls hP hD hS hl
  rw [hv_I, hv_or, Int32.ofInt_toInt] at h
  exact h

theorem hv_ishl (hc : hv_C X cc nL own ret d RC RS) {a b : Int} (hd : decode cc pc = .ok (.ishl, 1)) (kk : hv_R X nL cells slots Q t mem E lv (.int (hv_I (hv_shl a b)) :: st) (pc + 1)) : hv_R X nL cells slots Q t mem E lv (.int (hv_I b) :: .int (hv_I a) :: st) pc := by
  obtain ⟨⟨p, l, e, R, s, m, args, below, meth, c⟩, D, ca, ad, ak, av⟩ := X
  obtain ⟨hx, hb, hml, hown, hts, hlocks, hr, hK, hStr, hfr, hlo, hRC, hRS, hD0⟩ := hc
  intro r m' ht H locs ls hP hD hS hl
  refine lv_ishl hx hb hd ?_
  have h := kk r m' ht H locs ls hP hD hS hl
  rw [hv_I, hv_shl, Int32.ofInt_toInt] at h
  exact h

theorem hv_ishr (hc : hv_C X cc nL own ret d RC RS) {a b : Int} (hd : decode cc pc = .ok (.ishr, 1)) (kk : hv_R X nL cells slots Q t mem E lv (.int (hv_I (hv_shr a b)) :: st) (pc + 1)) : hv_R X nL cells slots Q t mem E lv (.int (hv_I b) :: .int (hv_I a) :: st) pc := by
  obtain ⟨⟨p, l, e, R, s, m, args, below, meth, c⟩, D, ca, ad, ak, av⟩ := X
  obtain ⟨hx, hb, hml, hown, hts, hlocks, hr, hK, hStr, hfr, hlo, hRC, hRS, hD0⟩ := hc
  intro r m' ht H locs ls hP hD hS hl
  refine lv_ishr hx hb hd ?_
  have h := kk r m' ht H locs ls hP hD hS hl
  rw [hv_I, hv_shr, Int32.ofInt_toInt] at h
  exact h

theorem hv_iushr (hc : hv_C X cc nL own ret d RC RS) {a b : Int} (hd : decode cc pc = .ok (.iushr, 1)) (kk : hv_R X nL cells slots Q t mem E lv (.int (hv_I (hv_ushr a b)) :: st) (pc + 1)) : hv_R X nL cells slots Q t mem E lv (.int (hv_I b) :: .int (hv_I a) :: st) pc := by
  obtain ⟨⟨p, l, e, R, s, m, args, below, meth, c⟩, D, ca, ad, ak, av⟩ := X
  obtain ⟨hx, hb, hml, hown, hts, hlocks, hr, hK, hStr, hfr, hlo, hRC, hRS, hD0⟩ := hc
  intro r m' ht H locs ls hP hD hS hl
  exact lv_iushr hx hb hd (Int32.ofInt_toInt _).symm (kk r m' ht H locs ls hP hD hS hl)

theorem hv_idiv (hc : hv_C X cc nL own ret d RC RS) {a b : Int} (hd : decode cc pc = .ok (.idiv, 1)) (hne : ¬ hv_I b = 0) (kk : hv_R X nL cells slots Q t mem E lv (.int (hv_I (hv_div a b)) :: st) (pc + 1)) : hv_R X nL cells slots Q t mem E lv (.int (hv_I b) :: .int (hv_I a) :: st) pc := by
  obtain ⟨⟨p, l, e, R, s, m, args, below, meth, c⟩, D, ca, ad, ak, av⟩ := X
  obtain ⟨hx, hb, hml, hown, hts, hlocks, hr, hK, hStr, hfr, hlo, hRC, hRS, hD0⟩ := hc
  intro r m' ht H locs ls hP hD hS hl
  refine lv_idiv hx hb hd hne ?_
  have h := kk r m' ht H locs ls hP hD hS hl
  rw [hv_I, hv_div, Int32.ofInt_toInt] at h
  exact h

theorem hv_irem (hc : hv_C X cc nL own ret d RC RS) {a b : Int} (hd : decode cc pc = .ok (.irem, 1)) (hne : ¬ hv_I b = 0) (kk : hv_R X nL cells slots Q t mem E lv (.int (hv_I (hv_rem a b)) :: st) (pc + 1)) : hv_R X nL cells slots Q t mem E lv (.int (hv_I b) :: .int (hv_I a) :: st) pc := by
  obtain ⟨⟨p, l, e, R, s, m, args, below, meth, c⟩, D, ca, ad, ak, av⟩ := X
  obtain ⟨hx, hb, hml, hown, hts, hlocks, hr, hK, hStr, hfr, hlo, hRC, hRS, hD0⟩ := hc
  intro r m' ht H locs ls hP hD hS hl
  refine lv_irem hx hb hd hne ?_
  have h := kk r m' ht H locs ls hP hD hS hl
  rw [hv_I, hv_rem, Int32.ofInt_toInt] at h
  exact h

theorem hv_goto (hc : hv_C X cc nL own ret d RC RS) {off : Int} {tgt : Nat} (hd : decode cc pc = .ok (.goto off, 3)) (ht0 : (pc : Int) + off = (tgt : Int)) (kk : hv_R X nL cells slots Q t mem E lv st tgt) : hv_R X nL cells slots Q t mem E lv st pc := by
  obtain ⟨⟨p, l, e, R, s, m, args, below, meth, c⟩, D, ca, ad, ak, av⟩ := X
  obtain ⟨hx, hb, hml, hown, hts, hlocks, hr, hK, hStr, hfr, hlo, hRC, hRS, hD0⟩ := hc
  intro r m' ht H locs ls hP hD hS hl
  exact lv_goto hx hb hd ht0 (kk r m' ht H locs ls hP hD hS hl)

theorem hv_I_lt {a b : Int} (ha : hv_R32 a) (hb : hv_R32 b) : hv_I a < hv_I b ↔ a < b := by
  rw [hv_I, hv_I, Int32.lt_iff_toInt_lt, Int32.toInt_ofInt_of_le (by omega) (by omega), Int32.toInt_ofInt_of_le (by omega) (by omega)]
theorem hv_I_le {a b : Int} (ha : hv_R32 a) (hb : hv_R32 b) : hv_I a ≤ hv_I b ↔ a ≤ b := by
  rw [hv_I, hv_I, Int32.le_iff_toInt_le, Int32.toInt_ofInt_of_le (by omega) (by omega), Int32.toInt_ofInt_of_le (by omega) (by omega)]
theorem hv_I_eq {a b : Int} (ha : hv_R32 a) (hb : hv_R32 b) : hv_I a = hv_I b ↔ a = b := by
  rw [hv_I, hv_I, ← Int32.toInt_inj, Int32.toInt_ofInt_of_le (by omega) (by omega), Int32.toInt_ofInt_of_le (by omega) (by omega)]
theorem hv_I_0 : hv_I 0 = 0 := rfl
theorem hv_R32_0 : hv_R32 0 := by decide

theorem hv_icmp_lt (hc : hv_C X cc nL own ret d RC RS) {a b : Int} {A B : hRs} {off : Int} {tgt : Nat} (hd : decode cc pc = .ok (.if_icmp .lt off, 3)) (ht0 : (pc : Int) + off = (tgt : Int)) (kt : hv_R X nL cells slots Q A mem E lv st tgt) (kf : hv_R X nL cells slots Q B mem E lv st (pc + 3)) : hv_R X nL cells slots Q (hv_lt a b A B) mem E lv (.int (hv_I b) :: .int (hv_I a) :: st) pc := by
  obtain ⟨⟨p, l, e, R, s, m, args, below, meth, c⟩, D, ca, ad, ak, av⟩ := X
  obtain ⟨hx, hb, hml, hown, hts, hlocks, hr, hK, hStr, hfr, hlo, hRC, hRS, hD0⟩ := hc
  intro r m' ht H locs ls hP hD hS hl
  unfold hv_lt at ht
  by_cases h : hv_R32 a ∧ hv_R32 b
  · rw [if_pos h] at ht
    refine lv_icmp_lt hx hb hd ht0 (fun hc0 => ?_) (fun hc0 => ?_)
    · rw [if_pos ((hv_I_lt h.1 h.2).mp hc0)] at ht
      exact kt r m' ht H locs ls hP hD hS hl
    · rw [if_neg (fun hh => hc0 ((hv_I_lt h.1 h.2).mpr hh))] at ht
      exact kf r m' ht H locs ls hP hD hS hl
  · rw [if_neg h] at ht; cases ht

theorem hv_if_lt (hc : hv_C X cc nL own ret d RC RS) {a : Int} {A B : hRs} {off : Int} {tgt : Nat} (hd : decode cc pc = .ok (.ifCond .lt off, 3)) (ht0 : (pc : Int) + off = (tgt : Int)) (kt : hv_R X nL cells slots Q A mem E lv st tgt) (kf : hv_R X nL cells slots Q B mem E lv st (pc + 3)) : hv_R X nL cells slots Q (hv_lt a 0 A B) mem E lv (.int (hv_I a) :: st) pc := by
  obtain ⟨⟨p, l, e, R, s, m, args, below, meth, c⟩, D, ca, ad, ak, av⟩ := X
  obtain ⟨hx, hb, hml, hown, hts, hlocks, hr, hK, hStr, hfr, hlo, hRC, hRS, hD0⟩ := hc
  intro r m' ht H locs ls hP hD hS hl
  unfold hv_lt at ht
  by_cases h : hv_R32 a ∧ hv_R32 0
  · rw [if_pos h] at ht
    refine lv_if_lt hx hb hd ht0 (fun hc0 => ?_) (fun hc0 => ?_)
    · rw [if_pos ((hv_I_lt h.1 h.2).mp hc0)] at ht
      exact kt r m' ht H locs ls hP hD hS hl
    · rw [if_neg (fun hh => hc0 ((hv_I_lt h.1 h.2).mpr hh))] at ht
      exact kf r m' ht H locs ls hP hD hS hl
  · rw [if_neg h] at ht; cases ht

theorem hv_icmp_ge (hc : hv_C X cc nL own ret d RC RS) {a b : Int} {A B : hRs} {off : Int} {tgt : Nat} (hd : decode cc pc = .ok (.if_icmp .ge off, 3)) (ht0 : (pc : Int) + off = (tgt : Int)) (kt : hv_R X nL cells slots Q A mem E lv st tgt) (kf : hv_R X nL cells slots Q B mem E lv st (pc + 3)) : hv_R X nL cells slots Q (hv_lt a b B A) mem E lv (.int (hv_I b) :: .int (hv_I a) :: st) pc := by
  obtain ⟨⟨p, l, e, R, s, m, args, below, meth, c⟩, D, ca, ad, ak, av⟩ := X
  obtain ⟨hx, hb, hml, hown, hts, hlocks, hr, hK, hStr, hfr, hlo, hRC, hRS, hD0⟩ := hc
  intro r m' ht H locs ls hP hD hS hl
  unfold hv_lt at ht
  by_cases h : hv_R32 a ∧ hv_R32 b
  · rw [if_pos h] at ht
    refine lv_icmp_ge hx hb hd ht0 (fun hc0 => ?_) (fun hc0 => ?_)
    · rw [if_neg (fun hh => absurd ((hv_I_lt h.1 h.2).mpr hh) (Int32.not_lt.mpr hc0))] at ht
      exact kt r m' ht H locs ls hP hD hS hl
    · rw [if_pos ((hv_I_lt h.1 h.2).mp (Int32.not_le.mp hc0))] at ht
      exact kf r m' ht H locs ls hP hD hS hl
  · rw [if_neg h] at ht; cases ht

theorem hv_if_ge (hc : hv_C X cc nL own ret d RC RS) {a : Int} {A B : hRs} {off : Int} {tgt : Nat} (hd : decode cc pc = .ok (.ifCond .ge off, 3)) (ht0 : (pc : Int) + off = (tgt : Int)) (kt : hv_R X nL cells slots Q A mem E lv st tgt) (kf : hv_R X nL cells slots Q B mem E lv st (pc + 3)) : hv_R X nL cells slots Q (hv_lt a 0 B A) mem E lv (.int (hv_I a) :: st) pc := by
  obtain ⟨⟨p, l, e, R, s, m, args, below, meth, c⟩, D, ca, ad, ak, av⟩ := X
  obtain ⟨hx, hb, hml, hown, hts, hlocks, hr, hK, hStr, hfr, hlo, hRC, hRS, hD0⟩ := hc
  intro r m' ht H locs ls hP hD hS hl
  unfold hv_lt at ht
  by_cases h : hv_R32 a ∧ hv_R32 0
  · rw [if_pos h] at ht
    refine lv_if_ge hx hb hd ht0 (fun hc0 => ?_) (fun hc0 => ?_)
    · rw [if_neg (fun hh => absurd ((hv_I_lt h.1 h.2).mpr hh) (Int32.not_lt.mpr hc0))] at ht
      exact kt r m' ht H locs ls hP hD hS hl
    · rw [if_pos ((hv_I_lt h.1 h.2).mp (Int32.not_le.mp hc0))] at ht
      exact kf r m' ht H locs ls hP hD hS hl
  · rw [if_neg h] at ht; cases ht

theorem hv_icmp_gt (hc : hv_C X cc nL own ret d RC RS) {a b : Int} {A B : hRs} {off : Int} {tgt : Nat} (hd : decode cc pc = .ok (.if_icmp .gt off, 3)) (ht0 : (pc : Int) + off = (tgt : Int)) (kt : hv_R X nL cells slots Q A mem E lv st tgt) (kf : hv_R X nL cells slots Q B mem E lv st (pc + 3)) : hv_R X nL cells slots Q (hv_lt b a A B) mem E lv (.int (hv_I b) :: .int (hv_I a) :: st) pc := by
  obtain ⟨⟨p, l, e, R, s, m, args, below, meth, c⟩, D, ca, ad, ak, av⟩ := X
  obtain ⟨hx, hb, hml, hown, hts, hlocks, hr, hK, hStr, hfr, hlo, hRC, hRS, hD0⟩ := hc
  intro r m' ht H locs ls hP hD hS hl
  unfold hv_lt at ht
  by_cases h : hv_R32 b ∧ hv_R32 a
  · rw [if_pos h] at ht
    refine lv_icmp_gt hx hb hd ht0 (fun hc0 => ?_) (fun hc0 => ?_)
    · rw [if_pos ((hv_I_lt h.1 h.2).mp hc0)] at ht
      exact kt r m' ht H locs ls hP hD hS hl
    · rw [if_neg (fun hh => hc0 ((hv_I_lt h.1 h.2).mpr hh))] at ht
      exact kf r m' ht H locs ls hP hD hS hl
  · rw [if_neg h] at ht; cases ht

theorem hv_if_gt (hc : hv_C X cc nL own ret d RC RS) {a : Int} {A B : hRs} {off : Int} {tgt : Nat} (hd : decode cc pc = .ok (.ifCond .gt off, 3)) (ht0 : (pc : Int) + off = (tgt : Int)) (kt : hv_R X nL cells slots Q A mem E lv st tgt) (kf : hv_R X nL cells slots Q B mem E lv st (pc + 3)) : hv_R X nL cells slots Q (hv_lt 0 a A B) mem E lv (.int (hv_I a) :: st) pc := by
  obtain ⟨⟨p, l, e, R, s, m, args, below, meth, c⟩, D, ca, ad, ak, av⟩ := X
  obtain ⟨hx, hb, hml, hown, hts, hlocks, hr, hK, hStr, hfr, hlo, hRC, hRS, hD0⟩ := hc
  intro r m' ht H locs ls hP hD hS hl
  unfold hv_lt at ht
  by_cases h : hv_R32 0 ∧ hv_R32 a
  · rw [if_pos h] at ht
    refine lv_if_gt hx hb hd ht0 (fun hc0 => ?_) (fun hc0 => ?_)
    · rw [if_pos ((hv_I_lt h.1 h.2).mp hc0)] at ht
      exact kt r m' ht H locs ls hP hD hS hl
    · rw [if_neg (fun hh => hc0 ((hv_I_lt h.1 h.2).mpr hh))] at ht
      exact kf r m' ht H locs ls hP hD hS hl
  · rw [if_neg h] at ht; cases ht

theorem hv_icmp_le (hc : hv_C X cc nL own ret d RC RS) {a b : Int} {A B : hRs} {off : Int} {tgt : Nat} (hd : decode cc pc = .ok (.if_icmp .le off, 3)) (ht0 : (pc : Int) + off = (tgt : Int)) (kt : hv_R X nL cells slots Q A mem E lv st tgt) (kf : hv_R X nL cells slots Q B mem E lv st (pc + 3)) : hv_R X nL cells slots Q (hv_lt b a B A) mem E lv (.int (hv_I b) :: .int (hv_I a) :: st) pc := by
  obtain ⟨⟨p, l, e, R, s, m, args, below, meth, c⟩, D, ca, ad, ak, av⟩ := X
  obtain ⟨hx, hb, hml, hown, hts, hlocks, hr, hK, hStr, hfr, hlo, hRC, hRS, hD0⟩ := hc
  intro r m' ht H locs ls hP hD hS hl
  unfold hv_lt at ht
  by_cases h : hv_R32 b ∧ hv_R32 a
  · rw [if_pos h] at ht
    refine lv_icmp_le hx hb hd ht0 (fun hc0 => ?_) (fun hc0 => ?_)
    · rw [if_neg (fun hh => absurd ((hv_I_lt h.1 h.2).mpr hh) (Int32.not_lt.mpr hc0))] at ht
      exact kt r m' ht H locs ls hP hD hS hl
    · rw [if_pos ((hv_I_lt h.1 h.2).mp (Int32.not_le.mp hc0))] at ht
      exact kf r m' ht H locs ls hP hD hS hl
  · rw [if_neg h] at ht; cases ht

theorem hv_if_le (hc : hv_C X cc nL own ret d RC RS) {a : Int} {A B : hRs} {off : Int} {tgt : Nat} (hd : decode cc pc = .ok (.ifCond .le off, 3)) (ht0 : (pc : Int) + off = (tgt : Int)) (kt : hv_R X nL cells slots Q A mem E lv st tgt) (kf : hv_R X nL cells slots Q B mem E lv st (pc + 3)) : hv_R X nL cells slots Q (hv_lt 0 a B A) mem E lv (.int (hv_I a) :: st) pc := by
  obtain ⟨⟨p, l, e, R, s, m, args, below, meth, c⟩, D, ca, ad, ak, av⟩ := X
  obtain ⟨hx, hb, hml, hown, hts, hlocks, hr, hK, hStr, hfr, hlo, hRC, hRS, hD0⟩ := hc
  intro r m' ht H locs ls hP hD hS hl
  unfold hv_lt at ht
  by_cases h : hv_R32 0 ∧ hv_R32 a
  · rw [if_pos h] at ht
    refine lv_if_le hx hb hd ht0 (fun hc0 => ?_) (fun hc0 => ?_)
    · rw [if_neg (fun hh => absurd ((hv_I_lt h.1 h.2).mpr hh) (Int32.not_lt.mpr hc0))] at ht
      exact kt r m' ht H locs ls hP hD hS hl
    · rw [if_pos ((hv_I_lt h.1 h.2).mp (Int32.not_le.mp hc0))] at ht
      exact kf r m' ht H locs ls hP hD hS hl
  · rw [if_neg h] at ht; cases ht

theorem hv_icmp_eq (hc : hv_C X cc nL own ret d RC RS) {a b : Int} {A B : hRs} {off : Int} {tgt : Nat} (hd : decode cc pc = .ok (.if_icmp .eq off, 3)) (ht0 : (pc : Int) + off = (tgt : Int)) (kt : hv_R X nL cells slots Q A mem E lv st tgt) (kf : hv_R X nL cells slots Q B mem E lv st (pc + 3)) : hv_R X nL cells slots Q (hv_eq a b A B) mem E lv (.int (hv_I b) :: .int (hv_I a) :: st) pc := by
  obtain ⟨⟨p, l, e, R, s, m, args, below, meth, c⟩, D, ca, ad, ak, av⟩ := X
  obtain ⟨hx, hb, hml, hown, hts, hlocks, hr, hK, hStr, hfr, hlo, hRC, hRS, hD0⟩ := hc
  intro r m' ht H locs ls hP hD hS hl
  unfold hv_eq at ht
  by_cases h : hv_R32 a ∧ hv_R32 b
  · rw [if_pos h] at ht
    refine lv_icmp_eq hx hb hd ht0 (fun hc0 => ?_) (fun hc0 => ?_)
    · rw [if_pos ((hv_I_eq h.1 h.2).mp hc0)] at ht
      exact kt r m' ht H locs ls hP hD hS hl
    · rw [if_neg (fun hh => hc0 ((hv_I_eq h.1 h.2).mpr hh))] at ht
      exact kf r m' ht H locs ls hP hD hS hl
  · rw [if_neg h] at ht; cases ht

theorem hv_if_eq (hc : hv_C X cc nL own ret d RC RS) {a : Int} {A B : hRs} {off : Int} {tgt : Nat} (hd : decode cc pc = .ok (.ifCond .eq off, 3)) (ht0 : (pc : Int) + off = (tgt : Int)) (kt : hv_R X nL cells slots Q A mem E lv st tgt) (kf : hv_R X nL cells slots Q B mem E lv st (pc + 3)) : hv_R X nL cells slots Q (hv_eq a 0 A B) mem E lv (.int (hv_I a) :: st) pc := by
  obtain ⟨⟨p, l, e, R, s, m, args, below, meth, c⟩, D, ca, ad, ak, av⟩ := X
  obtain ⟨hx, hb, hml, hown, hts, hlocks, hr, hK, hStr, hfr, hlo, hRC, hRS, hD0⟩ := hc
  intro r m' ht H locs ls hP hD hS hl
  unfold hv_eq at ht
  by_cases h : hv_R32 a ∧ hv_R32 0
  · rw [if_pos h] at ht
    refine lv_if_eq hx hb hd ht0 (fun hc0 => ?_) (fun hc0 => ?_)
    · rw [if_pos ((hv_I_eq h.1 h.2).mp hc0)] at ht
      exact kt r m' ht H locs ls hP hD hS hl
    · rw [if_neg (fun hh => hc0 ((hv_I_eq h.1 h.2).mpr hh))] at ht
      exact kf r m' ht H locs ls hP hD hS hl
  · rw [if_neg h] at ht; cases ht

theorem hv_icmp_ne (hc : hv_C X cc nL own ret d RC RS) {a b : Int} {A B : hRs} {off : Int} {tgt : Nat} (hd : decode cc pc = .ok (.if_icmp .ne off, 3)) (ht0 : (pc : Int) + off = (tgt : Int)) (kt : hv_R X nL cells slots Q A mem E lv st tgt) (kf : hv_R X nL cells slots Q B mem E lv st (pc + 3)) : hv_R X nL cells slots Q (hv_eq a b B A) mem E lv (.int (hv_I b) :: .int (hv_I a) :: st) pc := by
  obtain ⟨⟨p, l, e, R, s, m, args, below, meth, c⟩, D, ca, ad, ak, av⟩ := X
  obtain ⟨hx, hb, hml, hown, hts, hlocks, hr, hK, hStr, hfr, hlo, hRC, hRS, hD0⟩ := hc
  intro r m' ht H locs ls hP hD hS hl
  unfold hv_eq at ht
  by_cases h : hv_R32 a ∧ hv_R32 b
  · rw [if_pos h] at ht
    refine lv_icmp_ne hx hb hd ht0 (fun hc0 => ?_) (fun hc0 => ?_)
    · rw [if_neg (fun hh => hc0 ((hv_I_eq h.1 h.2).mpr hh))] at ht
      exact kt r m' ht H locs ls hP hD hS hl
    · rw [if_pos ((hv_I_eq h.1 h.2).mp hc0)] at ht
      exact kf r m' ht H locs ls hP hD hS hl
  · rw [if_neg h] at ht; cases ht

theorem hv_if_ne (hc : hv_C X cc nL own ret d RC RS) {a : Int} {A B : hRs} {off : Int} {tgt : Nat} (hd : decode cc pc = .ok (.ifCond .ne off, 3)) (ht0 : (pc : Int) + off = (tgt : Int)) (kt : hv_R X nL cells slots Q A mem E lv st tgt) (kf : hv_R X nL cells slots Q B mem E lv st (pc + 3)) : hv_R X nL cells slots Q (hv_eq a 0 B A) mem E lv (.int (hv_I a) :: st) pc := by
  obtain ⟨⟨p, l, e, R, s, m, args, below, meth, c⟩, D, ca, ad, ak, av⟩ := X
  obtain ⟨hx, hb, hml, hown, hts, hlocks, hr, hK, hStr, hfr, hlo, hRC, hRS, hD0⟩ := hc
  intro r m' ht H locs ls hP hD hS hl
  unfold hv_eq at ht
  by_cases h : hv_R32 a ∧ hv_R32 0
  · rw [if_pos h] at ht
    refine lv_if_ne hx hb hd ht0 (fun hc0 => ?_) (fun hc0 => ?_)
    · rw [if_neg (fun hh => hc0 ((hv_I_eq h.1 h.2).mpr hh))] at ht
      exact kt r m' ht H locs ls hP hD hS hl
    · rw [if_pos ((hv_I_eq h.1 h.2).mp hc0)] at ht
      exact kf r m' ht H locs ls hP hD hS hl
  · rw [if_neg h] at ht; cases ht

end HVR
