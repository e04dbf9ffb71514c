section HVS
variable {X : hv_X} {cc : ByteArray} {nL : Nat} {own : String} {ret : Option FieldType} {d RC RS cells slots : Nat} {Q : Int → hMem → State → Prop} {t : hRs} {mem : hMem} {E : hv_E} {lv lv' : List (Nat × Value)} {st : List Value} {pc : Nat}
theorem hv_m {q : Nat × Value} (k : Nat) (h : lv[k]? = some q) : q ∈ lv := List.mem_of_getElem? h
theorem hv_pick (ks : List Nat) (h : lv_pick lv ks = lv') (kk : hv_R X nL cells slots Q t mem E lv' st pc) : hv_R X nL cells slots Q t mem E lv st pc := by
  obtain ⟨⟨p, l, e, R, s, m, args, below, meth, c⟩, D, ca, ad, ak, av⟩ := X
  intro r m' ht H locs ls hP hD hS hl
  exact kk r m' ht H locs ls hP hD hS (lv_sub hl ks h)
theorem hv_widen {c2 s2 : Nat} (h1 : cells ≤ c2) (h2 : slots ≤ s2) (kk : hv_R X nL c2 s2 Q t mem E lv st pc) : hv_R X nL cells slots Q t mem E lv st pc := by
  obtain ⟨⟨p, l, e, R, s, m, args, below, meth, c⟩, D, ca, ad, ak, av⟩ := X
  intro r m' ht H locs ls hP hD hS hl
  exact W.widen h1 h2 (kk r m' ht H locs ls hP hD hS hl)
theorem hv_none : hv_R X nL cells slots Q none mem E lv st pc := fun r m' ht => by cases ht

theorem hv_istore_ns (hc : hv_C X cc nL own ret d RC RS) {k : Fin 4} {i : Nat} {v : Int} {f : Int → hRs} {lvf : Int → List (Nat × Value)} (hd : decode cc pc = .ok (.istore_n k, 1)) (hi : (k : Nat) = i) (hn : i < nL) (h : ∀ x : Int, (i, Value.int (hv_I x)) :: lv.filter (fun q => !(q.1 == i) && !(q.1 + 1 == i && q.2.category == 2)) = lvf x) (kk : ∀ x : Int, hv_R X nL cells slots Q (f x) mem E (lvf x) st (pc + 1)) : hv_R X nL cells slots Q (hv_set v f) mem E lv (.int (hv_I v) :: st) pc := hv_istore_n hc hd hi hn (h v) (kk v)
theorem hv_istore_s (hc : hv_C X cc nL own ret d RC RS) {i : Nat} {v : Int} {f : Int → hRs} {lvf : Int → List (Nat × Value)} (hd : decode cc pc = .ok (.istore i, 2)) (hn : i < nL) (h : ∀ x : Int, (i, Value.int (hv_I x)) :: lv.filter (fun q => !(q.1 == i) && !(q.1 + 1 == i && q.2.category == 2)) = lvf x) (kk : ∀ x : Int, hv_R X nL cells slots Q (f x) mem E (lvf x) st (pc + 2)) : hv_R X nL cells slots Q (hv_set v f) mem E lv (.int (hv_I v) :: st) pc := hv_istore hc hd hn (h v) (kk v)
theorem hv_iinc_s (hc : hv_C X cc nL own ret d RC RS) {i : Nat} {n a : Int} {f : Int → hRs} {lvf : Int → List (Nat × Value)} (hd : decode cc pc = .ok (.iinc i n, 3)) (hn : i < nL) (hm : (i, Value.int (hv_I a)) ∈ lv) (h : ∀ x : Int, (i, Value.int (hv_I x)) :: lv.filter (fun q => !(q.1 == i) && !(q.1 + 1 == i && q.2.category == 2)) = lvf x) (kk : ∀ x : Int, hv_R X nL cells slots Q (f x) mem E (lvf x) st (pc + 3)) : hv_R X nL cells slots Q (hv_set (a + n) f) mem E lv st pc := hv_iinc hc hd hn hm (h (a + n)) (kk (a + n))
theorem hv_callVi (hc : hv_C X cc nL own ret d RC RS) {dd idx n k ci maxL : Nat} {y : MethodName} {ycc : ByteArray} {yret : Option FieldType} {as : (Nat → Nat) → (Nat → Nat) → (Nat → Nat) → List Value} {t0 : hRs} {f : Int → hMem → hRs} {As rest : List Value} {fs : List (Option Nat)} (hM : hv_Met dd 0 0 0 y ycc maxL yret as mem t0) (hy : hv_YV y ycc maxL yret n) (hl0 : Cond.methodLink own idx y ∈ hv_tbl) (hk : hv_SH k = some (.inr (ci, fs))) (hq : (vwCl[ci]?).map (fun q => q.1) = some y.cls) (has : as (hv_ad X) (hv_ak X) (hv_av X) = .ref (hv_ad X k) :: As) (hn : As.length = n) (hst : st = As.reverse ++ .ref (hv_ad X k) :: rest) (hcat : (rest.map fun v => v.category).sum ≤ 8) (hdd : dd + 1 ≤ d) (hcell : cells ≤ RC) (hslot : slots ≤ RS) (hd : decode cc pc = .ok (.invokevirtual idx, 3)) (kk : ∀ (r0 : Int) (m0 : hMem), hv_R X nL cells slots Q (f r0 m0) m0 E lv (.int (hv_I r0) :: rest) (pc + 3)) : hv_R X nL cells slots Q (hv_b t0 f) mem E lv st pc := hv_callV hc hM hy hl0 hk hq has hn hst hcat hdd hcell hslot hd kk
theorem hv_callSi (hc : hv_C X cc nL own ret d RC RS) {dd idx n maxL : Nat} {y : MethodName} {ycc : ByteArray} {yret : Option FieldType} {as : (Nat → Nat) → (Nat → Nat) → (Nat → Nat) → List Value} {t0 : hRs} {f : Int → hMem → hRs} {As rest : List Value} (hM : hv_Met dd 0 0 0 y ycc maxL yret as mem t0) (hy : hv_YS y ycc maxL yret n) (hl0 : Cond.methodLink own idx y ∈ hv_tbl) (has : as (hv_ad X) (hv_ak X) (hv_av X) = As) (hn : As.length = n) (hst : st = As.reverse ++ rest) (hcat : (rest.map fun v => v.category).sum ≤ 8) (hdd : dd + 1 ≤ d) (hcell : cells ≤ RC) (hslot : slots ≤ RS) (hd : decode cc pc = .ok (.invokestatic idx, 3)) (kk : ∀ (r0 : Int) (m0 : hMem), hv_R X nL cells slots Q (f r0 m0) m0 E lv (.int (hv_I r0) :: rest) (pc + 3)) : hv_R X nL cells slots Q (hv_b t0 f) mem E lv st pc := hv_callS hc hM hy hl0 has hn hst hcat hdd hcell hslot hd kk
theorem hv_callSNi (hc : hv_C X cc nL own ret d RC RS) {dd idx n maxL : Nat} {y : MethodName} {ycc : ByteArray} {yret : Option FieldType} {as : (Nat → Nat) → (Nat → Nat) → (Nat → Nat) → List Value} {t0 : hRs} {f : Int → hMem → hRs} {As rest : List Value} {host : String} (hM : hv_Met dd 0 0 0 y ycc maxL yret as mem t0) (hy : hv_YS y ycc maxL yret n) (hl0 : ((own, idx, y, host) : String × Nat × MethodName × String) ∈ hv_NL) (has : as (hv_ad X) (hv_ak X) (hv_av X) = As) (hn : As.length = n) (hst : st = As.reverse ++ rest) (hcat : (rest.map fun v => v.category).sum ≤ 8) (hdd : dd + 1 ≤ d) (hcell : cells ≤ RC) (hslot : slots ≤ RS) (hd : decode cc pc = .ok (.invokestatic idx, 3)) (kk : ∀ (r0 : Int) (m0 : hMem), hv_R X nL cells slots Q (f r0 m0) m0 E lv (.int (hv_I r0) :: rest) (pc + 3)) : hv_R X nL cells slots Q (hv_b t0 f) mem E lv st pc := hv_callSN hc hM hy hl0 has hn hst hcat hdd hcell hslot hd kk
theorem hv_callVv (hc : hv_C X cc nL own ret d RC RS) {dd idx n k ci maxL : Nat} {y : MethodName} {ycc : ByteArray} {yret : Option FieldType} {as : (Nat → Nat) → (Nat → Nat) → (Nat → Nat) → List Value} {t0 : hRs} {f : Int → hMem → hRs} {As rest : List Value} {fs : List (Option Nat)} (hM : hv_Met dd 0 0 1 y ycc maxL yret as mem t0) (hy : hv_YV y ycc maxL yret n) (hl0 : Cond.methodLink own idx y ∈ hv_tbl) (hk : hv_SH k = some (.inr (ci, fs))) (hq : (vwCl[ci]?).map (fun q => q.1) = some y.cls) (has : as (hv_ad X) (hv_ak X) (hv_av X) = .ref (hv_ad X k) :: As) (hn : As.length = n) (hst : st = As.reverse ++ .ref (hv_ad X k) :: rest) (hcat : (rest.map fun v => v.category).sum ≤ 8) (hdd : dd + 1 ≤ d) (hcell : cells ≤ RC) (hslot : slots ≤ RS) (hd : decode cc pc = .ok (.invokevirtual idx, 3)) (kk : ∀ (r0 : Int) (m0 : hMem), hv_R X nL cells slots Q (f r0 m0) m0 E lv rest (pc + 3)) : hv_R X nL cells slots Q (hv_b t0 f) mem E lv st pc := hv_callV hc hM hy hl0 hk hq has hn hst hcat hdd hcell hslot hd kk
theorem hv_callSv (hc : hv_C X cc nL own ret d RC RS) {dd idx n maxL : Nat} {y : MethodName} {ycc : ByteArray} {yret : Option FieldType} {as : (Nat → Nat) → (Nat → Nat) → (Nat → Nat) → List Value} {t0 : hRs} {f : Int → hMem → hRs} {As rest : List Value} (hM : hv_Met dd 0 0 1 y ycc maxL yret as mem t0) (hy : hv_YS y ycc maxL yret n) (hl0 : Cond.methodLink own idx y ∈ hv_tbl) (has : as (hv_ad X) (hv_ak X) (hv_av X) = As) (hn : As.length = n) (hst : st = As.reverse ++ rest) (hcat : (rest.map fun v => v.category).sum ≤ 8) (hdd : dd + 1 ≤ d) (hcell : cells ≤ RC) (hslot : slots ≤ RS) (hd : decode cc pc = .ok (.invokestatic idx, 3)) (kk : ∀ (r0 : Int) (m0 : hMem), hv_R X nL cells slots Q (f r0 m0) m0 E lv rest (pc + 3)) : hv_R X nL cells slots Q (hv_b t0 f) mem E lv st pc := hv_callS hc hM hy hl0 has hn hst hcat hdd hcell hslot hd kk
theorem hv_callSNv (hc : hv_C X cc nL own ret d RC RS) {dd idx n maxL : Nat} {y : MethodName} {ycc : ByteArray} {yret : Option FieldType} {as : (Nat → Nat) → (Nat → Nat) → (Nat → Nat) → List Value} {t0 : hRs} {f : Int → hMem → hRs} {As rest : List Value} {host : String} (hM : hv_Met dd 0 0 1 y ycc maxL yret as mem t0) (hy : hv_YS y ycc maxL yret n) (hl0 : ((own, idx, y, host) : String × Nat × MethodName × String) ∈ hv_NL) (has : as (hv_ad X) (hv_ak X) (hv_av X) = As) (hn : As.length = n) (hst : st = As.reverse ++ rest) (hcat : (rest.map fun v => v.category).sum ≤ 8) (hdd : dd + 1 ≤ d) (hcell : cells ≤ RC) (hslot : slots ≤ RS) (hd : decode cc pc = .ok (.invokestatic idx, 3)) (kk : ∀ (r0 : Int) (m0 : hMem), hv_R X nL cells slots Q (f r0 m0) m0 E lv rest (pc + 3)) : hv_R X nL cells slots Q (hv_b t0 f) mem E lv st pc := hv_callSN hc hM hy hl0 has hn hst hcat hdd hcell hslot hd kk
theorem hv_callVa (hc : hv_C X cc nL own ret d RC RS) {dd idx n k ci maxL : Nat} {y : MethodName} {ycc : ByteArray} {yret : Option FieldType} {as : (Nat → Nat) → (Nat → Nat) → (Nat → Nat) → List Value} {t0 : hRs} {f : Int → hMem → hRs} {As rest : List Value} {fs : List (Option Nat)} (hM : hv_Met dd 0 0 2 y ycc maxL yret as mem t0) (hy : hv_YV y ycc maxL yret n) (hl0 : Cond.methodLink own idx y ∈ hv_tbl) (hk : hv_SH k = some (.inr (ci, fs))) (hq : (vwCl[ci]?).map (fun q => q.1) = some y.cls) (has : as (hv_ad X) (hv_ak X) (hv_av X) = .ref (hv_ad X k) :: As) (hn : As.length = n) (hst : st = As.reverse ++ .ref (hv_ad X k) :: rest) (hcat : (rest.map fun v => v.category).sum ≤ 8) (hdd : dd + 1 ≤ d) (hcell : cells ≤ RC) (hslot : slots ≤ RS) (hd : decode cc pc = .ok (.invokevirtual idx, 3)) (kk : ∀ (r0 : Int) (m0 : hMem), hv_R X nL cells slots Q (f r0 m0) m0 E lv (.ref (hv_ad X r0.toNat) :: rest) (pc + 3)) : hv_R X nL cells slots Q (hv_b t0 f) mem E lv st pc := hv_callV hc hM hy hl0 hk hq has hn hst hcat hdd hcell hslot hd kk
theorem hv_isR {p q : Nat} {r0 : Int} {f : Nat → hRs} (kk : ∀ b : Nat, b = p ∨ b = q → hv_R X nL cells slots Q (f b) mem E lv (.ref (hv_ad X b) :: st) pc) : hv_R X nL cells slots Q (hv_is p q r0 f) mem E lv (.ref (hv_ad X r0.toNat) :: st) pc := by
  intro r m' ht
  unfold hv_is at ht
  by_cases h1 : r0 = (p : Int)
  · rw [if_pos h1] at ht
    rw [show r0.toNat = p by omega]
    exact kk p (Or.inl rfl) r m' ht
  · rw [if_neg h1] at ht
    by_cases h2 : r0 = (q : Int)
    · rw [if_pos h2] at ht
      rw [show r0.toNat = q by omega]
      exact kk q (Or.inr rfl) r m' ht
    · rw [if_neg h2] at ht; cases ht
def hv_tsw (x lo : Int) (As : List hRs) (D : hRs) : hRs := if hv_R32 x then (if lo ≤ x ∧ x < lo + (As.length : Int) then As.getD (x - lo).toNat D else D) else none
def hv_swR (P : hRs → Nat → Prop) : List hRs → List Nat → Prop
  | [], _ => True
  | a :: as, t :: ts => P a t ∧ hv_swR P as ts
  | _ :: _, [] => False
theorem hv_swR_get {P : hRs → Nat → Prop} : ∀ {As : List hRs} {ts : List Nat}, hv_swR P As ts → ∀ (i : Nat) (a : hRs), As[i]? = some a → ∃ t, ts[i]? = some t ∧ P a t
  | [], _, _, i, a, h => by simp at h
  | b :: as, [], h, _, _, _ => h.elim
  | b :: as, t :: ts, h, 0, a, e => by
    simp only [List.getElem?_cons_zero, Option.some.injEq] at e
    subst e
    exact ⟨t, rfl, h.1⟩
  | b :: as, t :: ts, h, i + 1, a, e => by
    rw [List.getElem?_cons_succ] at e
    obtain ⟨t2, h1, h2⟩ := hv_swR_get h.2 i a e
    exact ⟨t2, by rw [List.getElem?_cons_succ]; exact h1, h2⟩
theorem hv_I_toInt {a : Int} (h : hv_R32 a) : (hv_I a).toInt = a := by
  rw [hv_I]
  exact Int32.toInt_ofInt_of_le (by omega) (by omega)

theorem hv_tswitch (hc : hv_C X cc nL own ret d RC RS) {x dflt lo hi : Int} {offs : Array Int} {len tD : Nat} {tgts : List Nat} {As : List hRs} {DD : hRs} (hd : decode cc pc = .ok (.tableswitch dflt lo hi offs, len)) (hhi : hi = lo + (As.length : Int) - 1) (hoffs : offs.toList = tgts.map (fun t : Nat => (t : Int) - (pc : Int))) (hDf : (pc : Int) + dflt = (tD : Int)) (kA : hv_swR (fun a tg => hv_R X nL cells slots Q a mem E lv st tg) As tgts) (kD : hv_R X nL cells slots Q DD mem E lv st tD) : hv_R X nL cells slots Q (hv_tsw x lo As DD) mem E lv (.int (hv_I x) :: st) pc := by
  obtain ⟨⟨p, l, e, R, s, m, args, below, meth, c⟩, D, ca, ad, ak, av⟩ := X
  obtain ⟨hx, hb, hml, hown, hts, hlocks, hr, hK, hStr, hfr, hlo, hRC, hRS, hD0⟩ := hc
  intro r m' ht H locs ls hP hD hS hl
  unfold hv_tsw at ht
  by_cases hR : hv_R32 x
  · rw [if_pos hR] at ht
    have hx2 := hv_I_toInt hR
    by_cases h : lo ≤ x ∧ x < lo + (As.length : Int)
    · rw [if_pos h] at ht
      have hlt : (x - lo).toNat < As.length := by omega
      have he : As[(x - lo).toNat]? = some As[(x - lo).toNat] := List.getElem?_eq_getElem hlt
      rw [List.getD_eq_getElem?_getD, he, Option.getD_some] at ht
      obtain ⟨tg, h1, h2⟩ := hv_swR_get kA _ _ he
      refine lv_tableIn (tgt := tg) (off := (tg : Int) - (pc : Int)) hx hb hd (by rw [hx2]; omega) (by rw [hx2]; omega) ?_ (by omega) (h2 r m' ht H locs ls hP hD hS hl)
      rw [hx2, ← Array.getElem?_toList, hoffs, List.getElem?_map, h1]
      rfl
    · rw [if_neg h] at ht
      exact lv_tableOut hx hb hd (by rw [hx2]; omega) hDf (kD r m' ht H locs ls hP hD hS hl)
  · rw [if_neg hR] at ht; cases ht

theorem hv_lsw01 (hc : hv_C X cc nL own ret d RC RS) {x dflt o0 o1 : Int} {len tD t0 t1 : Nat} {A0 A1 DD : hRs} (hd : decode cc pc = .ok (.lookupswitch dflt #[(0, o0), (1, o1)], len)) (h0 : (pc : Int) + o0 = (t0 : Int)) (h1 : (pc : Int) + o1 = (t1 : Int)) (hDf : (pc : Int) + dflt = (tD : Int)) (k0 : hv_R X nL cells slots Q A0 mem E lv st t0) (k1 : hv_R X nL cells slots Q A1 mem E lv st t1) (kD : hv_R X nL cells slots Q DD mem E lv st tD) : hv_R X nL cells slots Q (hv_eq x 0 A0 (hv_eq x 1 A1 DD)) mem E lv (.int (hv_I x) :: st) pc := by
  obtain ⟨⟨p, l, e, R, s, m, args, below, meth, c⟩, D, ca, ad, ak, av⟩ := X
  obtain ⟨hx, hb, hml, hown, hts, hlocks, hr, hK, hStr, hfr, hlo, hRC, hRS, hD0⟩ := hc
  intro r m' ht H locs ls hP hD hS hl
  unfold hv_eq at ht
  by_cases hR : hv_R32 x
  · have hx2 := hv_I_toInt hR
    rw [if_pos (show hv_R32 x ∧ hv_R32 0 from ⟨hR, hv_R32_0⟩)] at ht
    by_cases e0 : x = 0
    · rw [if_pos e0] at ht
      exact lv_lookup hx hb hd rfl (by rw [hx2, e0]; rfl) h0 (k0 r m' ht H locs ls hP hD hS hl)
    · rw [if_neg e0, if_pos (show hv_R32 x ∧ hv_R32 1 from ⟨hR, by decide⟩)] at ht
      by_cases e1 : x = 1
      · rw [if_pos e1] at ht
        exact lv_lookup hx hb hd rfl (by rw [hx2, e1]; rfl) h1 (k1 r m' ht H locs ls hP hD hS hl)
      · rw [if_neg e1] at ht
        refine lv_lookup hx hb hd rfl (off := dflt) ?_ hDf (kD r m' ht H locs ls hP hD hS hl)
        rw [hx2]
        show Op.lookupswitch.offset ((0, o0) :: (1, o1) :: []) dflt x = dflt
        rw [Op.lookupswitch.offset_cons, if_neg (fun z => e0 (by first | exact z | exact z.symm)), Op.lookupswitch.offset_cons, if_neg (fun z => e1 (by first | exact z | exact z.symm))]
        rfl
  · rw [if_neg (fun z => hR z.1)] at ht; cases ht

def hv_L (a : Int) : Int64 := Int64.ofInt a
def hv_cmp (a b : Int) : Int := if a < b then -1 else if a = b then 0 else 1
abbrev hv_R64 (a : Int) : Prop := -9223372036854775808 ≤ a ∧ a < 9223372036854775808
def hv_lc (a b : Int) (A : hRs) : hRs := if hv_R64 a ∧ hv_R64 b then A else none

theorem hv_i2l (hc : hv_C X cc nL own ret d RC RS) {a : Int} {f : hRs} (hd : decode cc pc = .ok (.i2l, 1)) (kk : hv_R X nL cells slots Q f mem E lv (.long (hv_L a) :: st) (pc + 1)) : hv_R X nL cells slots Q (hv_rg a f) mem E lv (.int (hv_I a) :: st) pc := by
  obtain ⟨⟨p, l, e, R, s, m, args, below, meth, c⟩, D, ca, ad, ak, av⟩ := X
  obtain ⟨hx, hb, hml, hown, hts, hlocks, hr, hK, hStr, hfr, hlo, hRC, hRS, hD0⟩ := hc
  intro r m' ht H locs ls hP hD hS hl
  unfold hv_rg at ht
  by_cases h : hv_R32 a
  · rw [if_pos h] at ht
    refine lv_i2l hx hb hd ?_ (kk r m' ht H locs ls hP hD hS hl)
    rw [hv_I, hv_L]
    exact Int32.toInt64_ofInt (by show -2147483648 ≤ a; omega) (by show a ≤ 2147483647; omega)
  · rw [if_neg h] at ht; cases ht

theorem hv_lconst (hc : hv_C X cc nL own ret d RC RS) {n : Fin 2} {k : Int} (hd : decode cc pc = .ok (.lconst n, 1)) (hv : Int64.ofNat (n : Nat) = hv_L k) (kk : hv_R X nL cells slots Q t mem E lv (.long (hv_L k) :: st) (pc + 1)) : hv_R X nL cells slots Q t mem E lv st pc := by
  obtain ⟨⟨p, l, e, R, s, m, args, below, meth, c⟩, D, ca, ad, ak, av⟩ := X
  obtain ⟨hx, hb, hml, hown, hts, hlocks, hr, hK, hStr, hfr, hlo, hRC, hRS, hD0⟩ := hc
  intro r m' ht H locs ls hP hD hS hl
  exact lv_lconst hx hb hd hv (kk r m' ht H locs ls hP hD hS hl)

theorem hv_ldc2 (hc : hv_C X cc nL own ret d RC RS) {v : Int64} {idx : Nat} {k : Int} (hl0 : Cond.constantLong own idx v ∈ hv_tbl) (hv : v = hv_L k) (hd : decode cc pc = .ok (.ldc2_w idx, 3)) (kk : hv_R X nL cells slots Q t mem E lv (.long (hv_L k) :: st) (pc + 3)) : hv_R X nL cells slots Q t mem E lv st pc := by
  obtain ⟨⟨p, l, e, R, s, m, args, below, meth, c⟩, D, ca, ad, ak, av⟩ := X
  obtain ⟨hx, hb, hml, hown, hts, hlocks, hr, hK, hStr, hfr, hlo, hRC, hRS, hD0⟩ := hc
  subst hv
  intro r m' ht H locs ls hP hD hS hl
  exact lv_ldc2 hx hb hown (hts _ hl0) hd (kk r m' ht H locs ls hP hD hS hl)

theorem hv_lload_n (hc : hv_C X cc nL own ret d RC RS) {k : Fin 4} {i : Nat} {x : Int64} (hd : decode cc pc = .ok (.lload_n k, 1)) (hi : (k : Nat) = i) (h : (i, Value.long x) ∈ lv) (kk : hv_R X nL cells slots Q t mem E lv (.long x :: st) (pc + 1)) : hv_R X nL cells slots Q t mem E lv st pc := by
  obtain ⟨⟨p, l, e, R, s, m, args, below, meth, c⟩, D, ca, ad, ak, av⟩ := X
  obtain ⟨hx, hb, hml, hown, hts, hlocks, hr, hK, hStr, hfr, hlo, hRC, hRS, hD0⟩ := hc
  intro r m' ht H locs ls hP hD hS hl
  exact lv_lload_n hx hb hd hi (hl.2.2 _ h) (kk r m' ht H locs ls hP hD hS hl)

theorem hv_lload (hc : hv_C X cc nL own ret d RC RS) {i : Nat} {x : Int64} (hd : decode cc pc = .ok (.lload i, 2)) (h : (i, Value.long x) ∈ lv) (kk : hv_R X nL cells slots Q t mem E lv (.long x :: st) (pc + 2)) : hv_R X nL cells slots Q t mem E lv st pc := by
  obtain ⟨⟨p, l, e, R, s, m, args, below, meth, c⟩, D, ca, ad, ak, av⟩ := X
  obtain ⟨hx, hb, hml, hown, hts, hlocks, hr, hK, hStr, hfr, hlo, hRC, hRS, hD0⟩ := hc
  intro r m' ht H locs ls hP hD hS hl
  exact lv_lload hx hb hd (hl.2.2 _ h) (kk r m' ht H locs ls hP hD hS hl)

theorem hv_lcmp (hc : hv_C X cc nL own ret d RC RS) {a b : Int} {f : hRs} (hd : decode cc pc = .ok (.lcmp, 1)) (kk : hv_R X nL cells slots Q f mem E lv (.int (hv_I (hv_cmp a b)) :: st) (pc + 1)) : hv_R X nL cells slots Q (hv_lc a b f) mem E lv (.long (hv_L b) :: .long (hv_L a) :: st) pc := by
  obtain ⟨⟨p, l, e, R, s, m, args, below, meth, c⟩, D, ca, ad, ak, av⟩ := X
  obtain ⟨hx, hb, hml, hown, hts, hlocks, hr, hK, hStr, hfr, hlo, hRC, hRS, hD0⟩ := hc
  intro r m' ht H locs ls hP hD hS hl
  unfold hv_lc at ht
  by_cases h : hv_R64 a ∧ hv_R64 b
  · rw [if_pos h] at ht
    refine W.lcmp hx hb hd ?_
    have ea : (hv_L a).toInt = a := by rw [hv_L]; exact Int64.toInt_ofInt_of_le (by omega) (by omega)
    have eb : (hv_L b).toInt = b := by rw [hv_L]; exact Int64.toInt_ofInt_of_le (by omega) (by omega)
    have e : lg_cmp (hv_L a) (hv_L b) = hv_I (hv_cmp a b) := by
      unfold lg_cmp hv_cmp
      have h1 : hv_L a < hv_L b ↔ a < b := by rw [Int64.lt_iff_toInt_lt, ea, eb]
      have h2 : hv_L a = hv_L b ↔ a = b := by rw [← Int64.toInt_inj, ea, eb]
      have h3 : hv_L b < hv_L a ↔ b < a := by rw [Int64.lt_iff_toInt_lt, ea, eb]
      by_cases c1 : a < b
      · have n1 : ¬ b < a := by omega
        have n2 : ¬ a = b := by omega
        simp [h1, h2, h3, c1, n1, n2, hv_I]
      · by_cases c2 : a = b
        · simp [h1, h2, h3, c1, c2, hv_I]
        · have c3 : b < a := by omega
          simp [h1, h2, h3, c1, c2, c3, hv_I]
    rw [e]
    exact kk r m' ht H locs ls hP hD hS hl
  · rw [if_neg h] at ht; cases ht

theorem hv_ca {D : va_G} {ca cA : ClassId} {s : State} (hK : va_K D vwCl ([(ca, .int)] ++ [(cA, .int)]) s) : cA = ca := by
  have h1 : s.vm.findClass ("[" ++ FieldType.int.toString) = some ca := (hK.2 0 _ rfl).2
  have h2 : s.vm.findClass ("[" ++ FieldType.int.toString) = some cA := (hK.2 1 _ rfl).2
  rw [h1] at h2
  exact (Option.some.inj h2).symm

theorem hv_newarr (hc : hv_C X cc nL own ret d RC RS) {n : Nat} {v : Int} (hv : v = (n : Int)) (harr : Cond.arrayClass .int ∈ hv_tbl) (hn : n ≤ 100000) (hcell : cells + 1 ≤ RC) (hslot : slots + n ≤ RS) (hd : decode cc pc = .ok (.newarray .int, 2)) (kk : ∀ q : Nat, hv_R X nL (cells + 1) (slots + n) Q t mem [(q, n, fun _ => 0)] lv (.ref q :: st) (pc + 2)) : hv_R X nL cells slots Q t mem [] lv (.int (hv_I v) :: st) pc := by
  obtain ⟨⟨p, l, e, R, s, m, args, below, meth, c⟩, D, ca, ad, ak, av⟩ := X
  obtain ⟨hx, hb, hml, hown, hts, hlocks, hr, hK, hStr, hfr, hlo, hRC, hRS, hD0⟩ := hc
  intro r m' ht H locs ls hP hD hS hl
  subst hv
  rw [hv_w_nil] at hP hD
  have h2 : (0 : Int) ≤ (n : Int) ∧ (n : Int) < ((n + 1 : Nat) : Int) := by omega
  refine va_newa (atype := .int) (ty := .int) (N' := n) (a0 := (n, .inl (fun _ => 0))) hx hb (hts _ harr) rfl hK hP hD hS (fun q h => Or.inr h) (fun cA => rfl) ?_ ?_ ?_ (by rw [hRC]; exact hcell) (by rw [hRS]; exact hslot) hd (fun q cA H1 hK1 hP1 hD1 hS1 => ?_)
  · intro hh
    have h1 : hv_I (n : Int) < hv_I 0 := hh
    rw [hv_I_lt (by constructor <;> omega) hv_R32_0] at h1
    omega
  · rw [hv_I_nat h2 (by omega)]
    omega
  · show n * 4 ≤ 536870912
    omega
  · have e := hv_ca hK1
    subst e
    exact kk q r m' ht H1 locs ls hP1 hD1 hS1 hl

theorem hv_ew_get (ad : Nat → Nat) (ca : ClassId) (m : hMem) (q n : Nat) (f : Nat → Int) : (hv_w ad ca m ++ hv_ew ca [(q, n, f)])[hv_N]? = some (q, .inl (ca, (n, .inl (fun j => hv_I (f j))))) := by
  rw [List.getElem?_append_right (by rw [hv_w_len]; omega), hv_w_len]
  simp [hv_ew]
theorem hv_ew_set (ad : Nat → Nat) (ca : ClassId) (m : hMem) (q n : Nat) (f g : Nat → Int) : (hv_w ad ca m ++ hv_ew ca [(q, n, f)]).set hv_N (q, .inl (ca, (n, .inl (fun j => hv_I (g j))))) = hv_w ad ca m ++ hv_ew ca [(q, n, g)] := by
  rw [List.set_append_right _ _ (by rw [hv_w_len]; omega), hv_w_len]
  simp [hv_ew]

theorem hv_naload (hc : hv_C X cc nL own ret d RC RS) {q n : Nat} {g : Nat → Int} {i : Int} {f : Int → hRs} (hn : n ≤ 2147483647) (hd : decode cc pc = .ok (.iaload, 1)) (kk : ∀ v : Int, hv_R X nL cells slots Q (f v) mem [(q, n, g)] lv (.int (hv_I v) :: st) (pc + 1)) : hv_R X nL cells slots Q (hv_nld g n i f) mem [(q, n, g)] lv (.int (hv_I i) :: .ref q :: st) pc := by
  obtain ⟨⟨p, l, e, R, s, m, args, below, meth, c⟩, D, ca, ad, ak, av⟩ := X
  obtain ⟨hx, hb, hml, hown, hts, hlocks, hr, hK, hStr, hfr, hlo, hRC, hRS, hD0⟩ := hc
  intro r m' ht H locs ls hP hD hS hl
  unfold hv_nld at ht
  by_cases h : 0 ≤ i ∧ i < (n : Int)
  · rw [if_pos h] at ht
    refine va_iald (D := D) hx hb hK hP hv_N 0 (hv_ew_get ad ca mem q n g) rfl (hv_vp_in h hn) hd ?_
    rw [hv_I_nat h hn]
    exact kk _ r m' ht H locs ls hP hD hS hl
  · rw [if_neg h] at ht; cases ht

theorem hv_nastore (hc : hv_C X cc nL own ret d RC RS) {q n : Nat} {g : Nat → Int} {i v : Int} {f : (Nat → Int) → hRs} (hn : n ≤ 2147483647) (hd : decode cc pc = .ok (.iastore, 1)) (kk : ∀ g1 : Nat → Int, hv_R X nL cells slots Q (f g1) mem [(q, n, g1)] lv st (pc + 1)) : hv_R X nL cells slots Q (hv_nst g n i v f) mem [(q, n, g)] lv (.int (hv_I v) :: .int (hv_I i) :: .ref q :: st) pc := by
  obtain ⟨⟨p, l, e, R, s, m, args, below, meth, c⟩, D, ca, ad, ak, av⟩ := X
  obtain ⟨hx, hb, hml, hown, hts, hlocks, hr, hK, hStr, hfr, hlo, hRC, hRS, hD0⟩ := hc
  intro r m' ht H locs ls hP hD hS hl
  unfold hv_nst at ht
  by_cases h : 0 ≤ i ∧ i < (n : Int)
  · rw [if_pos h] at ht
    refine va_iast (D := D) hx hb hK hP hD hS hv_N 0 (hv_ew_get ad ca mem q n g) rfl (hv_vp_in h hn) hd (fun H1 locs1 hP1 hD1 hS1 => ?_)
    have e : upd (fun j => hv_I (g j)) (hv_I i).toNatClampNeg (hv_I v) = fun j => hv_I (if j = i.toNat then v else g j) := by
      rw [hv_I_nat h hn]
      funext z
      by_cases hq : z = i.toNat
      · simp [upd, hq]
      · simp [upd, hq]
    rw [e, hv_ew_set] at hP1 hD1
    exact kk _ r m' ht H1 locs1 ls hP1 hD1 hS1 hl
  · rw [if_neg h] at ht; cases ht

theorem hv_ldcw (hc : hv_C X cc nL own ret d RC RS) {n : Int} {v : Int32} {index : Nat} (hl0 : Cond.constant own index v ∈ hv_tbl) (hv : v = hv_I n) (hd : decode cc pc = .ok (.ldc_w index, 3)) (kk : hv_R X nL cells slots Q t mem E lv (.int (hv_I n) :: st) (pc + 3)) : hv_R X nL cells slots Q t mem E lv st pc := by
  obtain ⟨⟨p, l, e, R, s, m, args, below, meth, c⟩, D, ca, ad, ak, av⟩ := X
  obtain ⟨hx, hb, hml, hown, hts, hlocks, hr, hK, hStr, hfr, hlo, hRC, hRS, hD0⟩ := hc
  subst hv
  intro r m' ht H locs ls hP hD hS hl
  exact lv_ldcw hx hb hown (hts _ hl0) hd (kk r m' ht H locs ls hP hD hS hl)

theorem hv_ldcS (hc : hv_C X cc nL own ret d RC RS) {idx i : Nat} {tx : String} (h : ((own, idx, tx, i) : String × Nat × String × Nat) ∈ hv_SC) (hd : decode cc pc = .ok (.ldc idx, 2)) (kk : hv_R X nL cells slots Q t mem E lv (.ref (hv_ak X i) :: st) (pc + 2)) : hv_R X nL cells slots Q t mem E lv st pc := by
  obtain ⟨⟨p, l, e, R, s, m, args, below, meth, c⟩, D, ca, ad, ak, av⟩ := X
  obtain ⟨hx, hb, hml, hown, hts, hlocks, hr, hK, hStr, hfr, hlo, hRC, hRS, hD0⟩ := hc
  intro r m' ht H locs ls hP hD hS hl
  exact va_ldcS hx hb hown (hStr.2.1 _ h) hd (kk r m' ht H locs ls hP hD hS hl)

theorem hv_callStr (hc : hv_C X cc nL own ret d RC RS) {dd idx n w maxL : Nat} {y : MethodName} {ycc : ByteArray} {yret : Option FieldType} {as : (Nat → Nat) → (Nat → Nat) → (Nat → Nat) → List Value} {t0 : hRs} {f : Int → hMem → hRs} {As rest : List Value}
    (hM : hv_Met dd 0 0 0 y ycc maxL yret as mem t0) (hy : hv_YV y ycc maxL yret n) (hl0 : Cond.methodLink own idx y ∈ hv_tbl) (hw : w < 8) (hq : "java/lang/String" = y.cls) (has : as (hv_ad X) (hv_ak X) (hv_av X) = .ref (hv_ak X w) :: As) (hn : As.length = n) (hst : st = As.reverse ++ .ref (hv_ak X w) :: rest) (hcat : (rest.map fun v => v.category).sum ≤ 8) (hdd : dd + 1 ≤ d) (hcell : cells ≤ RC) (hslot : slots ≤ RS)
    (hd : decode cc pc = .ok (.invokevirtual idx, 3)) (kk : ∀ (r0 : Int) (m0 : hMem), hv_R X nL cells slots Q (f r0 m0) m0 E lv (.int (hv_I r0) :: rest) (pc + 3)) : hv_R X nL cells slots Q (hv_b t0 f) mem E lv st pc := by
  obtain ⟨⟨p, l, e, R, s, m, args, below, meth, c⟩, D, ca, ad, ak, av⟩ := X
  obtain ⟨hx, hb, hml, hown, hts, hlocks, hr, hK, hStr, hfr, hlo, hRC, hRS, hD0⟩ := hc
  intro r m' ht H locs ls hP hD hS hl
  cases h0 : t0 with
  | none => rw [h0] at ht; cases ht
  | some q =>
    obtain ⟨r0, m0⟩ := q
    rw [h0] at ht
    have ht : f r0 m0 = some (r, m') := ht
    have hM1 := hM l D ca ad ak av H.size r0 m0 h0
    obtain ⟨y1, y2, y3, y4, y5, y6⟩ := hy
    have hrec : ∃ cell : Cell, H[ak w]? = some cell ∧ cell.vm.isStatics = false ∧ s.vm.findClass y.cls = some cell.cls := by
      have h1 := vk_recv hStr.1 hw hS
      rw [hq] at h1
      exact h1
    have hst : st = As.reverse ++ Value.ref (ak w) :: rest := hst
    have has : as ad ak av = Value.ref (ak w) :: As := has
    have hroom : (hv_RM dd 0 0).frames + 1 ≤ R.frames ∧ 8 + (maxL + 11) + (hv_RM dd 0 0).locals ≤ R.locals := by
      constructor
      · show dd + 1 ≤ R.frames
        omega
      · show 8 + (maxL + 11) + 40 * dd ≤ R.locals
        omega
    have hcw : CallB R s args own idx y ycc maxL yret (Cond.code y ycc maxL yret :: hv_tbl) (hv_RM dd 0 0) 0 0 n := callB_of n hts (hv_goodC y1) rfl rfl rfl (hts _ y4) (hts _ hl0) y5 hroom
    have hrun := va_runV (p := p) (l := l) (e := e) (below := below) (meth := meth) (H := H) (locs := locs) (cells := cells) (slots := slots) (C := y.cls) (b := ak w) (As := As) (rest := rest) (g := F0 m pc ls st) ⟨hx, hb, hml, hown, hts⟩ hM1 ⟨hcw, hts _ y2, hts _ y3⟩ ⟨hv_blind, hrec, fun U hU hW => ⟨by rw [← has], by rw [hU], hv_into hP hD hS hK hStr hU hW⟩⟩ rfl hn hl.1 hst (by show 2 * 0 + _ ≤ 8; omega) hd ⟨by rw [hRC]; exact hcell, by rw [hRS]; exact hslot⟩
    exact hv_back (ak := ak) (av := av) hP hD hS hrun (fun H1 locs1 hP1 hD1 hS1 => kk r0 m0 r m' ht H1 locs1 ls hP1 hD1 hS1 hl)

def hv_ch (w j : Nat) : Int := ((hv_byt.getD w []).getD j 0).toInt
def hv_sl (w : Nat) : Int := ((hv_len.getD w 0 : Nat) : Int)
def hv_sb (w : Nat) (i : Int) (f : Int → hRs) : hRs := if 0 ≤ i ∧ i < hv_sl w then f (hv_ch w i.toNat) else none
theorem hv_byt_ok : ∀ w, w < 8 → hv_len.getD w 0 ≤ 5 ∧ ∀ j, j < 5 → narrow .char (.int ((hv_byt.getD w []).getD j 0)) = .int ((hv_byt.getD w []).getD j 0) ∧ (hv_byt.getD w []).getD j 0 &&& 255 = (hv_byt.getD w []).getD j 0 ∧ (((hv_byt.getD w []).getD j 0).toUInt32 % 65536).toInt32 = (hv_byt.getD w []).getD j 0 := by decide +kernel

theorem hv_sgetV (hc : hv_C X cc nL own ret d RC RS) {w idx : Nat} (hw : w < 8) (hl0 : Cond.fieldLink own idx "java/lang/String" "value" "[B" ∈ hv_tbl) (hd : decode cc pc = .ok (.getfield idx, 3)) (kk : hv_R X nL cells slots Q t mem E lv (.ref (hv_av X w) :: st) (pc + 3)) : hv_R X nL cells slots Q t mem E lv (.ref (hv_ak X w) :: st) pc := by
  obtain ⟨⟨p, l, e, R, s, m, args, below, meth, c⟩, D, ca, ad, ak, av⟩ := X
  obtain ⟨hx, hb, hml, hown, hts, hlocks, hr, hK, hStr, hfr, hlo, hRC, hRS, hD0⟩ := hc
  intro r m' ht H locs ls hP hD hS hl
  exact vk_getf hx hb (hStr.1.1 w hw).2.2.1 hS hown (hts _ hl0) (fun _ h => h) hd (kk r m' ht H locs ls hP hD hS hl)

theorem hv_sgetC (hc : hv_C X cc nL own ret d RC RS) {w idx : Nat} (hw : w < 8) (hl0 : Cond.fieldLink own idx "java/lang/String" "coder" "B" ∈ hv_tbl) (hd : decode cc pc = .ok (.getfield idx, 3)) (kk : hv_R X nL cells slots Q t mem E lv (.int (hv_I 0) :: st) (pc + 3)) : hv_R X nL cells slots Q t mem E lv (.ref (hv_ak X w) :: st) pc := by
  obtain ⟨⟨p, l, e, R, s, m, args, below, meth, c⟩, D, ca, ad, ak, av⟩ := X
  obtain ⟨hx, hb, hml, hown, hts, hlocks, hr, hK, hStr, hfr, hlo, hRC, hRS, hD0⟩ := hc
  intro r m' ht H locs ls hP hD hS hl
  exact vk_getf hx hb (hStr.1.1 w hw).2.1 hS hown (hts _ hl0) (fun _ h => h) hd (kk r m' ht H locs ls hP hD hS hl)

theorem hv_sCS (hc : hv_C X cc nL own ret d RC RS) {idx : Nat} (hl0 : Cond.fieldLink own idx "java/lang/String" "COMPACT_STRINGS" "Z" ∈ hv_tbl) (hd : decode cc pc = .ok (.getstatic idx, 3)) (kk : hv_R X nL cells slots Q t mem E lv (.int (hv_I 1) :: st) (pc + 3)) : hv_R X nL cells slots Q t mem E lv st pc := by
  obtain ⟨⟨p, l, e, R, s, m, args, below, meth, c⟩, D, ca, ad, ak, av⟩ := X
  obtain ⟨hx, hb, hml, hown, hts, hlocks, hr, hK, hStr, hfr, hlo, hRC, hRS, hD0⟩ := hc
  intro r m' ht H locs ls hP hD hS hl
  exact va_gets hx hb hStr.2.2.1 hS hown (hts _ hl0) (fun _ h => h) hd (kk r m' ht H locs ls hP hD hS hl)

theorem hv_sFM (hc : hv_C X cc nL own ret d RC RS) {idx : Nat} (hl0 : Cond.fieldLink own idx "jdk/internal/util/Preconditions" "SIOOBE_FORMATTER" "Ljava/util/function/BiFunction;" ∈ hv_tbl) (hd : decode cc pc = .ok (.getstatic idx, 3)) (k0 : hv_R X nL cells slots Q t mem E lv (.null :: st) (pc + 3)) (k1 : ∀ q : Nat, hv_R X nL cells slots Q t mem E lv (.ref q :: st) (pc + 3)) : hv_R X nL cells slots Q t mem E lv st pc := by
  obtain ⟨⟨p, l, e, R, s, m, args, below, meth, c⟩, D, ca, ad, ak, av⟩ := X
  obtain ⟨hx, hb, hml, hown, hts, hlocks, hr, hK, hStr, hfr, hlo, hRC, hRS, hD0⟩ := hc
  intro r m' ht H locs ls hP hD hS hl
  rcases hStr.2.2.2.2 with h | ⟨q, h⟩
  · exact va_gets hx hb h hS hown (hts _ hl0) (fun _ h => h) hd (k0 r m' ht H locs ls hP hD hS hl)
  · exact va_gets hx hb h hS hown (hts _ hl0) (fun _ h => h) hd (k1 _ r m' ht H locs ls hP hD hS hl)

theorem hv_slenA (hc : hv_C X cc nL own ret d RC RS) {w : Nat} (hw : w < 8) (hd : decode cc pc = .ok (.arraylength, 1)) (kk : hv_R X nL cells slots Q t mem E lv (.int (hv_I (hv_sl w)) :: st) (pc + 1)) : hv_R X nL cells slots Q t mem E lv (.ref (hv_av X w) :: st) pc := by
  obtain ⟨⟨p, l, e, R, s, m, args, below, meth, c⟩, D, ca, ad, ak, av⟩ := X
  obtain ⟨hx, hb, hml, hown, hts, hlocks, hr, hK, hStr, hfr, hlo, hRC, hRS, hD0⟩ := hc
  intro r m' ht H locs ls hP hD hS hl
  exact va_tlen hx hb (hStr.1.1 w hw).2.2.2 hS (by rw [hv_I, hv_sl, Int32.ofInt_eq_ofNat]) hd (kk r m' ht H locs ls hP hD hS hl)

theorem hv_sbald (hc : hv_C X cc nL own ret d RC RS) {w : Nat} {i : Int} {f : Int → hRs} (hw : w < 8) (hd : decode cc pc = .ok (.baload, 1)) (kk : ∀ v : Int, (∃ j, j < 5 ∧ hv_I v = (hv_byt.getD w []).getD j 0) → hv_R X nL cells slots Q (f v) mem E lv (.int (hv_I v) :: st) (pc + 1)) : hv_R X nL cells slots Q (hv_sb w i f) mem E lv (.int (hv_I i) :: .ref (hv_av X w) :: st) pc := by
  obtain ⟨⟨p, l, e, R, s, m, args, below, meth, c⟩, D, ca, ad, ak, av⟩ := X
  obtain ⟨hx, hb, hml, hown, hts, hlocks, hr, hK, hStr, hfr, hlo, hRC, hRS, hD0⟩ := hc
  intro r m' ht H locs ls hP hD hS hl
  unfold hv_sb at ht
  have h5 := (hv_byt_ok w hw).1
  by_cases h : 0 ≤ i ∧ i < hv_sl w
  · rw [if_pos h] at ht
    have h2 : 0 ≤ i ∧ i < ((hv_len.getD w 0 : Nat) : Int) := h
    have e : (Value.int ((hv_byt.getD w []).getD (hv_I i).toNatClampNeg 0)) = Value.int (hv_I (hv_ch w i.toNat)) := by
      rw [hv_I_nat h2 (by omega), hv_ch, hv_I, Int32.ofInt_toInt]
    refine va_tb hx hb (hStr.1.1 w hw).2.2.2 hS (hv_vp_in h2 (by omega)) e hd (kk _ ⟨i.toNat, by omega, by rw [hv_ch, hv_I, Int32.ofInt_toInt]⟩ r m' ht H locs ls hP hD hS hl)
  · rw [if_neg h] at ht; cases ht

theorem hv_i2c (hc : hv_C X cc nL own ret d RC RS) {a : Int} (hv : ((hv_I a).toUInt32 % 65536).toInt32 = hv_I a) (hd : decode cc pc = .ok (.i2c, 1)) (kk : hv_R X nL cells slots Q t mem E lv (.int (hv_I a) :: st) (pc + 1)) : hv_R X nL cells slots Q t mem E lv (.int (hv_I a) :: st) pc := by
  obtain ⟨⟨p, l, e, R, s, m, args, below, meth, c⟩, D, ca, ad, ak, av⟩ := X
  obtain ⟨hx, hb, hml, hown, hts, hlocks, hr, hK, hStr, hfr, hlo, hRC, hRS, hD0⟩ := hc
  intro r m' ht H locs ls hP hD hS hl
  exact lv_i2c hx hb hd hv (kk r m' ht H locs ls hP hD hS hl)

theorem hv_nret {X : hv_X} {ty : FieldType} (hc : hv_C X cc nL own (some ty) d RC RS) {a : Int} (hn : narrow ty (.int (hv_I a)) = .int (hv_I a)) (hd : decode cc pc = .ok (.ireturn, 1)) : hv_R X nL cells slots (hv_QX X 0 cells slots) (hv_ret a mem) mem E lv [.int (hv_I a)] pc := by
  obtain ⟨⟨p, l, e, R, s, m, args, below, meth, c⟩, D, ca, ad, ak, av⟩ := X
  obtain ⟨hx, hb, hml, hown, hts, hlocks, hr, hK, hStr, hfr, hlo, hRC, hRS, hD0⟩ := hc
  intro r m' ht H locs ls hP hD hS hl
  cases ht
  exact W.zret (v := hv_I a) hx hb hr hn (fun t ht hW => ⟨rfl, by rw [ht]; exact hv_P_base hP, hS.F ht⟩) hS.2.2 hd

def hv_cr (r : Int) (m : hMem) : hRs := if 97 ≤ r ∧ r ≤ 122 then some (r, m) else none
theorem hv_cr_ok : ∀ k : Nat, k < 26 → narrow .char (.int (hv_I (97 + (k : Int)))) = .int (hv_I (97 + (k : Int))) := by decide +kernel
theorem hv_cret {X : hv_X} (hc : hv_C X cc nL own (some .char) d RC RS) {a : Int} (hd : decode cc pc = .ok (.ireturn, 1)) : hv_R X nL cells slots (hv_QX X 0 cells slots) (hv_cr a mem) mem E lv [.int (hv_I a)] pc := by
  intro r m' ht
  unfold hv_cr at ht
  by_cases h : 97 ≤ a ∧ a ≤ 122
  · rw [if_pos h] at ht
    have h1 := hv_cr_ok (a - 97).toNat (by omega)
    rw [show (97 : Int) + ((a - 97).toNat : Int) = a by omega] at h1
    exact hv_nret hc h1 hd r m' ht
  · rw [if_neg h] at ht; cases ht

end HVS
